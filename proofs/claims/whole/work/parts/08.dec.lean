theorem d_T_within_0 : decode m_T_within.2.1 0 = .ok (.iload_n 0, 1) := by decide +kernel
theorem d_T_within_1 : decode m_T_within.2.1 1 = .ok (.ifCond .lt (12), 3) := by decide +kernel
theorem d_T_within_13 : decode m_T_within.2.1 13 = .ok (.iconst 0, 1) := by decide +kernel
theorem d_T_within_14 : decode m_T_within.2.1 14 = .ok (.ireturn, 1) := by decide +kernel
theorem d_T_within_4 : decode m_T_within.2.1 4 = .ok (.iload_n 0, 1) := by decide +kernel
theorem d_T_within_5 : decode m_T_within.2.1 5 = .ok (.iload_n 1, 1) := by decide +kernel
theorem d_T_within_6 : decode m_T_within.2.1 6 = .ok (.if_icmp .ge (7), 3) := by decide +kernel
theorem d_T_within_9 : decode m_T_within.2.1 9 = .ok (.iconst 1, 1) := by decide +kernel
theorem d_T_within_10 : decode m_T_within.2.1 10 = .ok (.goto (4), 3) := by decide +kernel
theorem d_Isl_welcome_0 : decode m_Isl_welcome.2.1 0 = .ok (.aload_n 0, 1) := by decide +kernel
theorem d_Isl_welcome_1 : decode m_Isl_welcome.2.1 1 = .ok (.getfield 34, 3) := by decide +kernel
theorem d_Isl_welcome_4 : decode m_Isl_welcome.2.1 4 = .ok (.bipush (10), 2) := by decide +kernel
theorem d_Isl_welcome_6 : decode m_Isl_welcome.2.1 6 = .ok (.if_icmp .lt (6), 3) := by decide +kernel
theorem d_Isl_welcome_12 : decode m_Isl_welcome.2.1 12 = .ok (.aload_n 0, 1) := by decide +kernel
theorem d_Isl_welcome_13 : decode m_Isl_welcome.2.1 13 = .ok (.getfield 9, 3) := by decide +kernel
theorem d_Isl_welcome_16 : decode m_Isl_welcome.2.1 16 = .ok (.aload_n 0, 1) := by decide +kernel
theorem d_Isl_welcome_17 : decode m_Isl_welcome.2.1 17 = .ok (.getfield 34, 3) := by decide +kernel
theorem d_Isl_welcome_20 : decode m_Isl_welcome.2.1 20 = .ok (.iload_n 1, 1) := by decide +kernel
theorem d_Isl_welcome_21 : decode m_Isl_welcome.2.1 21 = .ok (.iastore, 1) := by decide +kernel
theorem d_Isl_welcome_22 : decode m_Isl_welcome.2.1 22 = .ok (.aload_n 0, 1) := by decide +kernel
theorem d_Isl_welcome_23 : decode m_Isl_welcome.2.1 23 = .ok (.getfield 15, 3) := by decide +kernel
theorem d_Isl_welcome_26 : decode m_Isl_welcome.2.1 26 = .ok (.aload_n 0, 1) := by decide +kernel
theorem d_Isl_welcome_27 : decode m_Isl_welcome.2.1 27 = .ok (.getfield 34, 3) := by decide +kernel
theorem d_Isl_welcome_30 : decode m_Isl_welcome.2.1 30 = .ok (.iload_n 2, 1) := by decide +kernel
theorem d_Isl_welcome_31 : decode m_Isl_welcome.2.1 31 = .ok (.iastore, 1) := by decide +kernel
theorem d_Isl_welcome_32 : decode m_Isl_welcome.2.1 32 = .ok (.aload_n 0, 1) := by decide +kernel
theorem d_Isl_welcome_33 : decode m_Isl_welcome.2.1 33 = .ok (.getfield 18, 3) := by decide +kernel
theorem d_Isl_welcome_36 : decode m_Isl_welcome.2.1 36 = .ok (.aload_n 0, 1) := by decide +kernel
theorem d_Isl_welcome_37 : decode m_Isl_welcome.2.1 37 = .ok (.getfield 34, 3) := by decide +kernel
theorem d_Isl_welcome_40 : decode m_Isl_welcome.2.1 40 = .ok (.iload_n 3, 1) := by decide +kernel
theorem d_Isl_welcome_41 : decode m_Isl_welcome.2.1 41 = .ok (.iastore, 1) := by decide +kernel
theorem d_Isl_welcome_42 : decode m_Isl_welcome.2.1 42 = .ok (.aload_n 0, 1) := by decide +kernel
theorem d_Isl_welcome_43 : decode m_Isl_welcome.2.1 43 = .ok (.getfield 21, 3) := by decide +kernel
theorem d_Isl_welcome_46 : decode m_Isl_welcome.2.1 46 = .ok (.aload_n 0, 1) := by decide +kernel
theorem d_Isl_welcome_47 : decode m_Isl_welcome.2.1 47 = .ok (.getfield 34, 3) := by decide +kernel
theorem d_Isl_welcome_50 : decode m_Isl_welcome.2.1 50 = .ok (.iconst (-1), 1) := by decide +kernel
theorem d_Isl_welcome_51 : decode m_Isl_welcome.2.1 51 = .ok (.iastore, 1) := by decide +kernel
theorem d_Isl_welcome_52 : decode m_Isl_welcome.2.1 52 = .ok (.aload_n 0, 1) := by decide +kernel
theorem d_Isl_welcome_53 : decode m_Isl_welcome.2.1 53 = .ok (.dup, 1) := by decide +kernel
theorem d_Isl_welcome_54 : decode m_Isl_welcome.2.1 54 = .ok (.getfield 34, 3) := by decide +kernel
theorem d_Isl_welcome_57 : decode m_Isl_welcome.2.1 57 = .ok (.iconst 1, 1) := by decide +kernel
theorem d_Isl_welcome_58 : decode m_Isl_welcome.2.1 58 = .ok (.iadd, 1) := by decide +kernel
theorem d_Isl_welcome_59 : decode m_Isl_welcome.2.1 59 = .ok (.putfield 34, 3) := by decide +kernel
theorem d_Isl_welcome_62 : decode m_Isl_welcome.2.1 62 = .ok (.aload_n 0, 1) := by decide +kernel
theorem d_Isl_welcome_63 : decode m_Isl_welcome.2.1 63 = .ok (.getfield 34, 3) := by decide +kernel
theorem d_Isl_welcome_66 : decode m_Isl_welcome.2.1 66 = .ok (.iconst 1, 1) := by decide +kernel
theorem d_Isl_welcome_67 : decode m_Isl_welcome.2.1 67 = .ok (.isub, 1) := by decide +kernel
theorem d_Isl_welcome_68 : decode m_Isl_welcome.2.1 68 = .ok (.ireturn, 1) := by decide +kernel
theorem d_Isl_welcome_9 : decode m_Isl_welcome.2.1 9 = .ok (.bipush (-3), 2) := by decide +kernel
theorem d_Isl_welcome_11 : decode m_Isl_welcome.2.1 11 = .ok (.ireturn, 1) := by decide +kernel
theorem d_T_citizen_0 : decode m_T_citizen.2.1 0 = .ok (.iload_n 1, 1) := by decide +kernel
theorem d_T_citizen_1 : decode m_T_citizen.2.1 1 = .ok (.bipush (8), 2) := by decide +kernel
theorem d_T_citizen_3 : decode m_T_citizen.2.1 3 = .ok (.invokestatic 72, 3) := by decide +kernel
theorem d_T_citizen_6 : decode m_T_citizen.2.1 6 = .ok (.ifCond .ne (5), 3) := by decide +kernel
theorem d_T_citizen_9 : decode m_T_citizen.2.1 9 = .ok (.iconst (-1), 1) := by decide +kernel
theorem d_T_citizen_10 : decode m_T_citizen.2.1 10 = .ok (.ireturn, 1) := by decide +kernel
theorem d_T_citizen_11 : decode m_T_citizen.2.1 11 = .ok (.aload_n 0, 1) := by decide +kernel
theorem d_T_citizen_12 : decode m_T_citizen.2.1 12 = .ok (.getfield 10, 3) := by decide +kernel
theorem d_T_citizen_15 : decode m_T_citizen.2.1 15 = .ok (.iload_n 1, 1) := by decide +kernel
theorem d_T_citizen_16 : decode m_T_citizen.2.1 16 = .ok (.bipush (9), 2) := by decide +kernel
theorem d_T_citizen_18 : decode m_T_citizen.2.1 18 = .ok (.bipush (10), 2) := by decide +kernel
theorem d_T_citizen_20 : decode m_T_citizen.2.1 20 = .ok (.invokevirtual 76, 3) := by decide +kernel
theorem d_T_citizen_23 : decode m_T_citizen.2.1 23 = .ok (.ireturn, 1) := by decide +kernel
theorem d_Isl_takes_0 : decode m_Isl_takes.2.1 0 = .ok (.iload_n 0, 1) := by decide +kernel
theorem d_Isl_takes_1 : decode m_Isl_takes.2.1 1 = .ok (.getstatic 52, 3) := by decide +kernel
theorem d_Isl_takes_4 : decode m_Isl_takes.2.1 4 = .ok (.arraylength, 1) := by decide +kernel
theorem d_Isl_takes_5 : decode m_Isl_takes.2.1 5 = .ok (.invokestatic 55, 3) := by decide +kernel
theorem d_Isl_takes_8 : decode m_Isl_takes.2.1 8 = .ok (.ifCond .eq (25), 3) := by decide +kernel
theorem d_Isl_takes_33 : decode m_Isl_takes.2.1 33 = .ok (.iconst 0, 1) := by decide +kernel
theorem d_Isl_takes_34 : decode m_Isl_takes.2.1 34 = .ok (.ireturn, 1) := by decide +kernel
theorem d_Isl_takes_11 : decode m_Isl_takes.2.1 11 = .ok (.iload_n 1, 1) := by decide +kernel
theorem d_Isl_takes_12 : decode m_Isl_takes.2.1 12 = .ok (.getstatic 58, 3) := by decide +kernel
theorem d_Isl_takes_15 : decode m_Isl_takes.2.1 15 = .ok (.iload_n 0, 1) := by decide +kernel
theorem d_Isl_takes_16 : decode m_Isl_takes.2.1 16 = .ok (.iaload, 1) := by decide +kernel
theorem d_Isl_takes_17 : decode m_Isl_takes.2.1 17 = .ok (.if_icmp .lt (16), 3) := by decide +kernel
theorem d_Isl_takes_20 : decode m_Isl_takes.2.1 20 = .ok (.iload_n 1, 1) := by decide +kernel
theorem d_Isl_takes_21 : decode m_Isl_takes.2.1 21 = .ok (.getstatic 52, 3) := by decide +kernel
theorem d_Isl_takes_24 : decode m_Isl_takes.2.1 24 = .ok (.iload_n 0, 1) := by decide +kernel
theorem d_Isl_takes_25 : decode m_Isl_takes.2.1 25 = .ok (.iaload, 1) := by decide +kernel
theorem d_Isl_takes_26 : decode m_Isl_takes.2.1 26 = .ok (.if_icmp .gt (7), 3) := by decide +kernel
theorem d_Isl_takes_29 : decode m_Isl_takes.2.1 29 = .ok (.iconst 1, 1) := by decide +kernel
theorem d_Isl_takes_30 : decode m_Isl_takes.2.1 30 = .ok (.goto (4), 3) := by decide +kernel
theorem d_Sh_has_0 : decode m_Sh_has.2.1 0 = .ok (.iload_n 1, 1) := by decide +kernel
theorem d_Sh_has_1 : decode m_Sh_has.2.1 1 = .ok (.ifCond .lt (29), 3) := by decide +kernel
theorem d_Sh_has_30 : decode m_Sh_has.2.1 30 = .ok (.iconst 0, 1) := by decide +kernel
theorem d_Sh_has_31 : decode m_Sh_has.2.1 31 = .ok (.ireturn, 1) := by decide +kernel
theorem d_Sh_has_4 : decode m_Sh_has.2.1 4 = .ok (.iload_n 2, 1) := by decide +kernel
theorem d_Sh_has_5 : decode m_Sh_has.2.1 5 = .ok (.ifCond .lt (25), 3) := by decide +kernel
theorem d_Sh_has_8 : decode m_Sh_has.2.1 8 = .ok (.iload_n 1, 1) := by decide +kernel
theorem d_Sh_has_9 : decode m_Sh_has.2.1 9 = .ok (.aload_n 0, 1) := by decide +kernel
theorem d_Sh_has_10 : decode m_Sh_has.2.1 10 = .ok (.getfield 31, 3) := by decide +kernel
theorem d_Sh_has_13 : decode m_Sh_has.2.1 13 = .ok (.if_icmp .gt (17), 3) := by decide +kernel
theorem d_Sh_has_16 : decode m_Sh_has.2.1 16 = .ok (.iload_n 2, 1) := by decide +kernel
theorem d_Sh_has_17 : decode m_Sh_has.2.1 17 = .ok (.aload_n 0, 1) := by decide +kernel
theorem d_Sh_has_18 : decode m_Sh_has.2.1 18 = .ok (.getfield 31, 3) := by decide +kernel
theorem d_Sh_has_21 : decode m_Sh_has.2.1 21 = .ok (.iload_n 1, 1) := by decide +kernel
theorem d_Sh_has_22 : decode m_Sh_has.2.1 22 = .ok (.isub, 1) := by decide +kernel
theorem d_Sh_has_23 : decode m_Sh_has.2.1 23 = .ok (.if_icmp .gt (7), 3) := by decide +kernel
theorem d_Sh_has_26 : decode m_Sh_has.2.1 26 = .ok (.iconst 1, 1) := by decide +kernel
theorem d_Sh_has_27 : decode m_Sh_has.2.1 27 = .ok (.goto (4), 3) := by decide +kernel
theorem d_Sh_small_0 : decode m_Sh_small.2.1 0 = .ok (.aload_n 0, 1) := by decide +kernel
theorem d_Sh_small_1 : decode m_Sh_small.2.1 1 = .ok (.iload_n 1, 1) := by decide +kernel
theorem d_Sh_small_2 : decode m_Sh_small.2.1 2 = .ok (.iconst 1, 1) := by decide +kernel
theorem d_Sh_small_3 : decode m_Sh_small.2.1 3 = .ok (.invokevirtual 34, 3) := by decide +kernel
theorem d_Sh_small_6 : decode m_Sh_small.2.1 6 = .ok (.ifCond .eq (13), 3) := by decide +kernel
theorem d_Sh_small_19 : decode m_Sh_small.2.1 19 = .ok (.iconst (-1), 1) := by decide +kernel
theorem d_Sh_small_20 : decode m_Sh_small.2.1 20 = .ok (.ireturn, 1) := by decide +kernel
theorem d_Sh_small_9 : decode m_Sh_small.2.1 9 = .ok (.aload_n 0, 1) := by decide +kernel
theorem d_Sh_small_10 : decode m_Sh_small.2.1 10 = .ok (.getfield 11, 3) := by decide +kernel
theorem d_Sh_small_13 : decode m_Sh_small.2.1 13 = .ok (.iload_n 1, 1) := by decide +kernel
theorem d_Sh_small_14 : decode m_Sh_small.2.1 14 = .ok (.laload, 1) := by decide +kernel
theorem d_Sh_small_15 : decode m_Sh_small.2.1 15 = .ok (.l2i, 1) := by decide +kernel
theorem d_Sh_small_16 : decode m_Sh_small.2.1 16 = .ok (.goto (4), 3) := by decide +kernel
theorem d_Isl_welcomeThree_0 : decode m_Isl_welcomeThree.2.1 0 = .ok (.iconst 0, 1) := by decide +kernel
theorem d_Isl_welcomeThree_1 : decode m_Isl_welcomeThree.2.1 1 = .ok (.istore_n 3, 1) := by decide +kernel
theorem d_Isl_welcomeThree_2 : decode m_Isl_welcomeThree.2.1 2 = .ok (.iload_n 3, 1) := by decide +kernel
theorem d_Isl_welcomeThree_3 : decode m_Isl_welcomeThree.2.1 3 = .ok (.iconst 3, 1) := by decide +kernel
theorem d_Isl_welcomeThree_4 : decode m_Isl_welcomeThree.2.1 4 = .ok (.if_icmp .ge (25), 3) := by decide +kernel
theorem d_Isl_welcomeThree_29 : decode m_Isl_welcomeThree.2.1 29 = .ok (.aload_n 0, 1) := by decide +kernel
theorem d_Isl_welcomeThree_30 : decode m_Isl_welcomeThree.2.1 30 = .ok (.aload_n 1, 1) := by decide +kernel
theorem d_Isl_welcomeThree_31 : decode m_Isl_welcomeThree.2.1 31 = .ok (.iload_n 2, 1) := by decide +kernel
theorem d_Isl_welcomeThree_32 : decode m_Isl_welcomeThree.2.1 32 = .ok (.invokevirtual 38, 3) := by decide +kernel
theorem d_Isl_welcomeThree_35 : decode m_Isl_welcomeThree.2.1 35 = .ok (.aload_n 1, 1) := by decide +kernel
theorem d_Isl_welcomeThree_36 : decode m_Isl_welcomeThree.2.1 36 = .ok (.iload_n 2, 1) := by decide +kernel
theorem d_Isl_welcomeThree_37 : decode m_Isl_welcomeThree.2.1 37 = .ok (.iconst 1, 1) := by decide +kernel
theorem d_Isl_welcomeThree_38 : decode m_Isl_welcomeThree.2.1 38 = .ok (.iadd, 1) := by decide +kernel
theorem d_Isl_welcomeThree_39 : decode m_Isl_welcomeThree.2.1 39 = .ok (.invokevirtual 38, 3) := by decide +kernel
theorem d_Isl_welcomeThree_42 : decode m_Isl_welcomeThree.2.1 42 = .ok (.aload_n 1, 1) := by decide +kernel
theorem d_Isl_welcomeThree_43 : decode m_Isl_welcomeThree.2.1 43 = .ok (.iload_n 2, 1) := by decide +kernel
theorem d_Isl_welcomeThree_44 : decode m_Isl_welcomeThree.2.1 44 = .ok (.iconst 2, 1) := by decide +kernel
theorem d_Isl_welcomeThree_45 : decode m_Isl_welcomeThree.2.1 45 = .ok (.iadd, 1) := by decide +kernel
theorem d_Isl_welcomeThree_46 : decode m_Isl_welcomeThree.2.1 46 = .ok (.invokevirtual 38, 3) := by decide +kernel
theorem d_Isl_welcomeThree_49 : decode m_Isl_welcomeThree.2.1 49 = .ok (.invokevirtual 48, 3) := by decide +kernel
theorem d_Isl_welcomeThree_52 : decode m_Isl_welcomeThree.2.1 52 = .ok (.ireturn, 1) := by decide +kernel
theorem d_Isl_welcomeThree_7 : decode m_Isl_welcomeThree.2.1 7 = .ok (.iload_n 3, 1) := by decide +kernel
theorem d_Isl_welcomeThree_8 : decode m_Isl_welcomeThree.2.1 8 = .ok (.aload_n 1, 1) := by decide +kernel
theorem d_Isl_welcomeThree_9 : decode m_Isl_welcomeThree.2.1 9 = .ok (.iload_n 2, 1) := by decide +kernel
theorem d_Isl_welcomeThree_10 : decode m_Isl_welcomeThree.2.1 10 = .ok (.iload_n 3, 1) := by decide +kernel
theorem d_Isl_welcomeThree_11 : decode m_Isl_welcomeThree.2.1 11 = .ok (.iadd, 1) := by decide +kernel
theorem d_Isl_welcomeThree_12 : decode m_Isl_welcomeThree.2.1 12 = .ok (.invokevirtual 38, 3) := by decide +kernel
theorem d_Isl_welcomeThree_15 : decode m_Isl_welcomeThree.2.1 15 = .ok (.invokestatic 44, 3) := by decide +kernel
theorem d_Isl_welcomeThree_18 : decode m_Isl_welcomeThree.2.1 18 = .ok (.ifCond .ne (5), 3) := by decide +kernel
theorem d_Isl_welcomeThree_21 : decode m_Isl_welcomeThree.2.1 21 = .ok (.iconst (-1), 1) := by decide +kernel
theorem d_Isl_welcomeThree_22 : decode m_Isl_welcomeThree.2.1 22 = .ok (.ireturn, 1) := by decide +kernel
theorem d_Isl_welcomeThree_23 : decode m_Isl_welcomeThree.2.1 23 = .ok (.iinc 3 (1), 3) := by decide +kernel
theorem d_Isl_welcomeThree_26 : decode m_Isl_welcomeThree.2.1 26 = .ok (.goto (-24), 3) := by decide +kernel
theorem d_Sh_isOfBytes_0 : decode m_Sh_isOfBytes.2.1 0 = .ok (.aload_n 0, 1) := by decide +kernel
theorem d_Sh_isOfBytes_1 : decode m_Sh_isOfBytes.2.1 1 = .ok (.getfield 15, 3) := by decide +kernel
theorem d_Sh_isOfBytes_4 : decode m_Sh_isOfBytes.2.1 4 = .ok (.iconst 2, 1) := by decide +kernel
theorem d_Sh_isOfBytes_5 : decode m_Sh_isOfBytes.2.1 5 = .ok (.if_icmp .ne (14), 3) := by decide +kernel
theorem d_Sh_isOfBytes_8 : decode m_Sh_isOfBytes.2.1 8 = .ok (.aload_n 0, 1) := by decide +kernel
theorem d_Sh_isOfBytes_9 : decode m_Sh_isOfBytes.2.1 9 = .ok (.getfield 28, 3) := by decide +kernel
theorem d_Sh_isOfBytes_12 : decode m_Sh_isOfBytes.2.1 12 = .ok (.ifCond .ne (7), 3) := by decide +kernel
theorem d_Sh_isOfBytes_15 : decode m_Sh_isOfBytes.2.1 15 = .ok (.iconst 1, 1) := by decide +kernel
theorem d_Sh_isOfBytes_16 : decode m_Sh_isOfBytes.2.1 16 = .ok (.goto (4), 3) := by decide +kernel
theorem d_Sh_isOfBytes_20 : decode m_Sh_isOfBytes.2.1 20 = .ok (.ireturn, 1) := by decide +kernel
theorem d_Sh_isOfBytes_19 : decode m_Sh_isOfBytes.2.1 19 = .ok (.iconst 0, 1) := by decide +kernel
theorem d_T_citizens_0 : decode m_T_citizens.2.1 0 = .ok (.iload_n 1, 1) := by decide +kernel
theorem d_T_citizens_1 : decode m_T_citizens.2.1 1 = .ok (.bipush (6), 2) := by decide +kernel
theorem d_T_citizens_3 : decode m_T_citizens.2.1 3 = .ok (.invokestatic 72, 3) := by decide +kernel
theorem d_T_citizens_6 : decode m_T_citizens.2.1 6 = .ok (.ifCond .eq (14), 3) := by decide +kernel
theorem d_T_citizens_20 : decode m_T_citizens.2.1 20 = .ok (.iconst (-1), 1) := by decide +kernel
theorem d_T_citizens_21 : decode m_T_citizens.2.1 21 = .ok (.ireturn, 1) := by decide +kernel
theorem d_T_citizens_9 : decode m_T_citizens.2.1 9 = .ok (.iload_n 3, 1) := by decide +kernel
theorem d_T_citizens_10 : decode m_T_citizens.2.1 10 = .ok (.iconst 1, 1) := by decide +kernel
theorem d_T_citizens_11 : decode m_T_citizens.2.1 11 = .ok (.if_icmp .lt (9), 3) := by decide +kernel
theorem d_T_citizens_14 : decode m_T_citizens.2.1 14 = .ok (.iload_n 3, 1) := by decide +kernel
theorem d_T_citizens_15 : decode m_T_citizens.2.1 15 = .ok (.bipush (10), 2) := by decide +kernel
theorem d_T_citizens_17 : decode m_T_citizens.2.1 17 = .ok (.if_icmp .le (5), 3) := by decide +kernel
theorem d_T_citizens_22 : decode m_T_citizens.2.1 22 = .ok (.aload_n 0, 1) := by decide +kernel
theorem d_T_citizens_23 : decode m_T_citizens.2.1 23 = .ok (.getfield 67, 3) := by decide +kernel
theorem d_T_citizens_26 : decode m_T_citizens.2.1 26 = .ok (.iload_n 1, 1) := by decide +kernel
theorem d_T_citizens_27 : decode m_T_citizens.2.1 27 = .ok (.aaload, 1) := by decide +kernel
theorem d_T_citizens_28 : decode m_T_citizens.2.1 28 = .ok (.astore 4, 2) := by decide +kernel
theorem d_T_citizens_30 : decode m_T_citizens.2.1 30 = .ok (.aload 4, 2) := by decide +kernel
theorem d_T_citizens_32 : decode m_T_citizens.2.1 32 = .ok (.getfield 80, 3) := by decide +kernel
theorem d_T_citizens_35 : decode m_T_citizens.2.1 35 = .ok (.ifCond .ne (5), 3) := by decide +kernel
theorem d_T_citizens_38 : decode m_T_citizens.2.1 38 = .ok (.iconst 0, 1) := by decide +kernel
theorem d_T_citizens_39 : decode m_T_citizens.2.1 39 = .ok (.ireturn, 1) := by decide +kernel
theorem d_T_citizens_40 : decode m_T_citizens.2.1 40 = .ok (.aload 4, 2) := by decide +kernel
theorem d_T_citizens_42 : decode m_T_citizens.2.1 42 = .ok (.invokevirtual 84, 3) := by decide +kernel
theorem d_T_citizens_45 : decode m_T_citizens.2.1 45 = .ok (.ifCond .ne (6), 3) := by decide +kernel
theorem d_T_citizens_48 : decode m_T_citizens.2.1 48 = .ok (.bipush (-12), 2) := by decide +kernel
theorem d_T_citizens_50 : decode m_T_citizens.2.1 50 = .ok (.ireturn, 1) := by decide +kernel
theorem d_T_citizens_51 : decode m_T_citizens.2.1 51 = .ok (.iconst 0, 1) := by decide +kernel
theorem d_T_citizens_52 : decode m_T_citizens.2.1 52 = .ok (.istore 5, 2) := by decide +kernel
theorem d_T_citizens_54 : decode m_T_citizens.2.1 54 = .ok (.iload_n 2, 1) := by decide +kernel
theorem d_T_citizens_55 : decode m_T_citizens.2.1 55 = .ok (.istore 6, 2) := by decide +kernel
theorem d_T_citizens_57 : decode m_T_citizens.2.1 57 = .ok (.iload 5, 2) := by decide +kernel
theorem d_T_citizens_59 : decode m_T_citizens.2.1 59 = .ok (.iload_n 3, 1) := by decide +kernel
theorem d_T_citizens_60 : decode m_T_citizens.2.1 60 = .ok (.if_icmp .ge (37), 3) := by decide +kernel
theorem d_T_citizens_97 : decode m_T_citizens.2.1 97 = .ok (.iload 5, 2) := by decide +kernel
theorem d_T_citizens_99 : decode m_T_citizens.2.1 99 = .ok (.ireturn, 1) := by decide +kernel
theorem d_T_citizens_63 : decode m_T_citizens.2.1 63 = .ok (.aload 4, 2) := by decide +kernel
theorem d_T_citizens_65 : decode m_T_citizens.2.1 65 = .ok (.iload 6, 2) := by decide +kernel
theorem d_T_citizens_67 : decode m_T_citizens.2.1 67 = .ok (.iconst 3, 1) := by decide +kernel
theorem d_T_citizens_68 : decode m_T_citizens.2.1 68 = .ok (.invokevirtual 88, 3) := by decide +kernel
theorem d_T_citizens_71 : decode m_T_citizens.2.1 71 = .ok (.ifCond .eq (26), 3) := by decide +kernel
theorem d_T_citizens_74 : decode m_T_citizens.2.1 74 = .ok (.aload_n 0, 1) := by decide +kernel
theorem d_T_citizens_75 : decode m_T_citizens.2.1 75 = .ok (.getfield 10, 3) := by decide +kernel
theorem d_T_citizens_78 : decode m_T_citizens.2.1 78 = .ok (.aload 4, 2) := by decide +kernel
theorem d_T_citizens_80 : decode m_T_citizens.2.1 80 = .ok (.iload 6, 2) := by decide +kernel
theorem d_T_citizens_82 : decode m_T_citizens.2.1 82 = .ok (.invokevirtual 91, 3) := by decide +kernel
theorem d_T_citizens_85 : decode m_T_citizens.2.1 85 = .ok (.ifCond .lt (12), 3) := by decide +kernel
theorem d_T_citizens_88 : decode m_T_citizens.2.1 88 = .ok (.iinc 5 (1), 3) := by decide +kernel
theorem d_T_citizens_91 : decode m_T_citizens.2.1 91 = .ok (.iinc 6 (3), 3) := by decide +kernel
theorem d_T_citizens_94 : decode m_T_citizens.2.1 94 = .ok (.goto (-37), 3) := by decide +kernel
theorem d_Ch_dropOldest_0 : decode m_Ch_dropOldest.2.1 0 = .ok (.aload_n 0, 1) := by decide +kernel
theorem d_Ch_dropOldest_1 : decode m_Ch_dropOldest.2.1 1 = .ok (.bipush (39), 2) := by decide +kernel
theorem d_Ch_dropOldest_3 : decode m_Ch_dropOldest.2.1 3 = .ok (.putfield 22, 3) := by decide +kernel
theorem d_Ch_dropOldest_6 : decode m_Ch_dropOldest.2.1 6 = .ok (.aload_n 0, 1) := by decide +kernel
theorem d_Ch_dropOldest_7 : decode m_Ch_dropOldest.2.1 7 = .ok (.getfield 9, 3) := by decide +kernel
theorem d_Ch_dropOldest_10 : decode m_Ch_dropOldest.2.1 10 = .ok (.iconst 1, 1) := by decide +kernel
theorem d_Ch_dropOldest_11 : decode m_Ch_dropOldest.2.1 11 = .ok (.aload_n 0, 1) := by decide +kernel
theorem d_Ch_dropOldest_12 : decode m_Ch_dropOldest.2.1 12 = .ok (.getfield 9, 3) := by decide +kernel
theorem d_Ch_dropOldest_15 : decode m_Ch_dropOldest.2.1 15 = .ok (.iconst 0, 1) := by decide +kernel
theorem d_Ch_dropOldest_16 : decode m_Ch_dropOldest.2.1 16 = .ok (.aload_n 0, 1) := by decide +kernel
theorem d_Ch_dropOldest_17 : decode m_Ch_dropOldest.2.1 17 = .ok (.getfield 22, 3) := by decide +kernel
theorem d_Ch_dropOldest_20 : decode m_Ch_dropOldest.2.1 20 = .ok (.invokestatic 32, 3) := by decide +kernel
theorem d_Ch_dropOldest_23 : decode m_Ch_dropOldest.2.1 23 = .ok (.aload_n 0, 1) := by decide +kernel
theorem d_Ch_dropOldest_24 : decode m_Ch_dropOldest.2.1 24 = .ok (.getfield 13, 3) := by decide +kernel
theorem d_Ch_dropOldest_27 : decode m_Ch_dropOldest.2.1 27 = .ok (.iconst 1, 1) := by decide +kernel
theorem d_Ch_dropOldest_28 : decode m_Ch_dropOldest.2.1 28 = .ok (.aload_n 0, 1) := by decide +kernel
theorem d_Ch_dropOldest_29 : decode m_Ch_dropOldest.2.1 29 = .ok (.getfield 13, 3) := by decide +kernel
theorem d_Ch_dropOldest_32 : decode m_Ch_dropOldest.2.1 32 = .ok (.iconst 0, 1) := by decide +kernel
theorem d_Ch_dropOldest_33 : decode m_Ch_dropOldest.2.1 33 = .ok (.aload_n 0, 1) := by decide +kernel
theorem d_Ch_dropOldest_34 : decode m_Ch_dropOldest.2.1 34 = .ok (.getfield 22, 3) := by decide +kernel
theorem d_Ch_dropOldest_37 : decode m_Ch_dropOldest.2.1 37 = .ok (.invokestatic 32, 3) := by decide +kernel
theorem d_Ch_dropOldest_40 : decode m_Ch_dropOldest.2.1 40 = .ok (.aload_n 0, 1) := by decide +kernel
theorem d_Ch_dropOldest_41 : decode m_Ch_dropOldest.2.1 41 = .ok (.getfield 16, 3) := by decide +kernel
theorem d_Ch_dropOldest_44 : decode m_Ch_dropOldest.2.1 44 = .ok (.iconst 1, 1) := by decide +kernel
theorem d_Ch_dropOldest_45 : decode m_Ch_dropOldest.2.1 45 = .ok (.aload_n 0, 1) := by decide +kernel
theorem d_Ch_dropOldest_46 : decode m_Ch_dropOldest.2.1 46 = .ok (.getfield 16, 3) := by decide +kernel
theorem d_Ch_dropOldest_49 : decode m_Ch_dropOldest.2.1 49 = .ok (.iconst 0, 1) := by decide +kernel
theorem d_Ch_dropOldest_50 : decode m_Ch_dropOldest.2.1 50 = .ok (.aload_n 0, 1) := by decide +kernel
theorem d_Ch_dropOldest_51 : decode m_Ch_dropOldest.2.1 51 = .ok (.getfield 22, 3) := by decide +kernel
theorem d_Ch_dropOldest_54 : decode m_Ch_dropOldest.2.1 54 = .ok (.invokestatic 32, 3) := by decide +kernel
theorem d_Ch_dropOldest_57 : decode m_Ch_dropOldest.2.1 57 = .ok (.aload_n 0, 1) := by decide +kernel
theorem d_Ch_dropOldest_58 : decode m_Ch_dropOldest.2.1 58 = .ok (.getfield 19, 3) := by decide +kernel
theorem d_Ch_dropOldest_61 : decode m_Ch_dropOldest.2.1 61 = .ok (.iconst 1, 1) := by decide +kernel
theorem d_Ch_dropOldest_62 : decode m_Ch_dropOldest.2.1 62 = .ok (.aload_n 0, 1) := by decide +kernel
theorem d_Ch_dropOldest_63 : decode m_Ch_dropOldest.2.1 63 = .ok (.getfield 19, 3) := by decide +kernel
theorem d_Ch_dropOldest_66 : decode m_Ch_dropOldest.2.1 66 = .ok (.iconst 0, 1) := by decide +kernel
theorem d_Ch_dropOldest_67 : decode m_Ch_dropOldest.2.1 67 = .ok (.aload_n 0, 1) := by decide +kernel
theorem d_Ch_dropOldest_68 : decode m_Ch_dropOldest.2.1 68 = .ok (.getfield 22, 3) := by decide +kernel
theorem d_Ch_dropOldest_71 : decode m_Ch_dropOldest.2.1 71 = .ok (.invokestatic 32, 3) := by decide +kernel
theorem d_Ch_dropOldest_74 : decode m_Ch_dropOldest.2.1 74 = .ok (.return_, 1) := by decide +kernel
theorem d_Ch_add_0 : decode m_Ch_add.2.1 0 = .ok (.aload_n 0, 1) := by decide +kernel
theorem d_Ch_add_1 : decode m_Ch_add.2.1 1 = .ok (.getfield 22, 3) := by decide +kernel
theorem d_Ch_add_4 : decode m_Ch_add.2.1 4 = .ok (.bipush (40), 2) := by decide +kernel
theorem d_Ch_add_6 : decode m_Ch_add.2.1 6 = .ok (.if_icmp .lt (7), 3) := by decide +kernel
theorem d_Ch_add_13 : decode m_Ch_add.2.1 13 = .ok (.aload_n 0, 1) := by decide +kernel
theorem d_Ch_add_14 : decode m_Ch_add.2.1 14 = .ok (.getfield 9, 3) := by decide +kernel
theorem d_Ch_add_17 : decode m_Ch_add.2.1 17 = .ok (.aload_n 0, 1) := by decide +kernel
theorem d_Ch_add_18 : decode m_Ch_add.2.1 18 = .ok (.getfield 22, 3) := by decide +kernel
theorem d_Ch_add_21 : decode m_Ch_add.2.1 21 = .ok (.iload_n 1, 1) := by decide +kernel
theorem d_Ch_add_22 : decode m_Ch_add.2.1 22 = .ok (.iastore, 1) := by decide +kernel
theorem d_Ch_add_23 : decode m_Ch_add.2.1 23 = .ok (.aload_n 0, 1) := by decide +kernel
theorem d_Ch_add_24 : decode m_Ch_add.2.1 24 = .ok (.getfield 13, 3) := by decide +kernel
theorem d_Ch_add_27 : decode m_Ch_add.2.1 27 = .ok (.aload_n 0, 1) := by decide +kernel
theorem d_Ch_add_28 : decode m_Ch_add.2.1 28 = .ok (.getfield 22, 3) := by decide +kernel
theorem d_Ch_add_31 : decode m_Ch_add.2.1 31 = .ok (.iload_n 2, 1) := by decide +kernel
theorem d_Ch_add_32 : decode m_Ch_add.2.1 32 = .ok (.iastore, 1) := by decide +kernel
theorem d_Ch_add_33 : decode m_Ch_add.2.1 33 = .ok (.aload_n 0, 1) := by decide +kernel
theorem d_Ch_add_34 : decode m_Ch_add.2.1 34 = .ok (.getfield 16, 3) := by decide +kernel
theorem d_Ch_add_37 : decode m_Ch_add.2.1 37 = .ok (.aload_n 0, 1) := by decide +kernel
theorem d_Ch_add_38 : decode m_Ch_add.2.1 38 = .ok (.getfield 22, 3) := by decide +kernel
theorem d_Ch_add_41 : decode m_Ch_add.2.1 41 = .ok (.iload_n 3, 1) := by decide +kernel
theorem d_Ch_add_42 : decode m_Ch_add.2.1 42 = .ok (.iastore, 1) := by decide +kernel
theorem d_Ch_add_43 : decode m_Ch_add.2.1 43 = .ok (.aload_n 0, 1) := by decide +kernel
theorem d_Ch_add_44 : decode m_Ch_add.2.1 44 = .ok (.getfield 19, 3) := by decide +kernel
theorem d_Ch_add_47 : decode m_Ch_add.2.1 47 = .ok (.aload_n 0, 1) := by decide +kernel
theorem d_Ch_add_48 : decode m_Ch_add.2.1 48 = .ok (.getfield 22, 3) := by decide +kernel
theorem d_Ch_add_51 : decode m_Ch_add.2.1 51 = .ok (.iload 4, 2) := by decide +kernel
theorem d_Ch_add_53 : decode m_Ch_add.2.1 53 = .ok (.iastore, 1) := by decide +kernel
theorem d_Ch_add_54 : decode m_Ch_add.2.1 54 = .ok (.aload_n 0, 1) := by decide +kernel
theorem d_Ch_add_55 : decode m_Ch_add.2.1 55 = .ok (.dup, 1) := by decide +kernel
theorem d_Ch_add_56 : decode m_Ch_add.2.1 56 = .ok (.getfield 22, 3) := by decide +kernel
theorem d_Ch_add_59 : decode m_Ch_add.2.1 59 = .ok (.iconst 1, 1) := by decide +kernel
theorem d_Ch_add_60 : decode m_Ch_add.2.1 60 = .ok (.iadd, 1) := by decide +kernel
theorem d_Ch_add_61 : decode m_Ch_add.2.1 61 = .ok (.putfield 22, 3) := by decide +kernel
theorem d_Ch_add_64 : decode m_Ch_add.2.1 64 = .ok (.aload_n 0, 1) := by decide +kernel
theorem d_Ch_add_65 : decode m_Ch_add.2.1 65 = .ok (.aload_n 0, 1) := by decide +kernel
theorem d_Ch_add_66 : decode m_Ch_add.2.1 66 = .ok (.getfield 22, 3) := by decide +kernel
theorem d_Ch_add_69 : decode m_Ch_add.2.1 69 = .ok (.putfield 29, 3) := by decide +kernel
theorem d_Ch_add_72 : decode m_Ch_add.2.1 72 = .ok (.return_, 1) := by decide +kernel
theorem d_Ch_add_9 : decode m_Ch_add.2.1 9 = .ok (.aload_n 0, 1) := by decide +kernel
theorem d_Ch_add_10 : decode m_Ch_add.2.1 10 = .ok (.invokevirtual 26, 3) := by decide +kernel
theorem d_Isl_knows_0 : decode m_Isl_knows.2.1 0 = .ok (.iload_n 2, 1) := by decide +kernel
theorem d_Isl_knows_1 : decode m_Isl_knows.2.1 1 = .ok (.getstatic 52, 3) := by decide +kernel
theorem d_Isl_knows_4 : decode m_Isl_knows.2.1 4 = .ok (.arraylength, 1) := by decide +kernel
theorem d_Isl_knows_5 : decode m_Isl_knows.2.1 5 = .ok (.invokestatic 55, 3) := by decide +kernel
theorem d_Isl_knows_8 : decode m_Isl_knows.2.1 8 = .ok (.ifCond .ne (5), 3) := by decide +kernel
theorem d_Isl_knows_11 : decode m_Isl_knows.2.1 11 = .ok (.iconst 0, 1) := by decide +kernel
theorem d_Isl_knows_12 : decode m_Isl_knows.2.1 12 = .ok (.ireturn, 1) := by decide +kernel
theorem d_Isl_knows_13 : decode m_Isl_knows.2.1 13 = .ok (.iload_n 2, 1) := by decide +kernel
theorem d_Isl_knows_14 : decode m_Isl_knows.2.1 14 = .ok (.iconst 4, 1) := by decide +kernel
theorem d_Isl_knows_15 : decode m_Isl_knows.2.1 15 = .ok (.if_icmp .ge (14), 3) := by decide +kernel
theorem d_Isl_knows_29 : decode m_Isl_knows.2.1 29 = .ok (.iload_n 1, 1) := by decide +kernel
theorem d_Isl_knows_30 : decode m_Isl_knows.2.1 30 = .ok (.ifCond .ne (7), 3) := by decide +kernel
theorem d_Isl_knows_33 : decode m_Isl_knows.2.1 33 = .ok (.iconst 1, 1) := by decide +kernel
theorem d_Isl_knows_34 : decode m_Isl_knows.2.1 34 = .ok (.goto (4), 3) := by decide +kernel
theorem d_Isl_knows_38 : decode m_Isl_knows.2.1 38 = .ok (.ireturn, 1) := by decide +kernel
theorem d_Isl_knows_37 : decode m_Isl_knows.2.1 37 = .ok (.iconst 0, 1) := by decide +kernel
theorem d_Isl_knows_18 : decode m_Isl_knows.2.1 18 = .ok (.iload_n 1, 1) := by decide +kernel
theorem d_Isl_knows_19 : decode m_Isl_knows.2.1 19 = .ok (.aload_n 0, 1) := by decide +kernel
theorem d_Isl_knows_20 : decode m_Isl_knows.2.1 20 = .ok (.getfield 34, 3) := by decide +kernel
theorem d_Isl_knows_23 : decode m_Isl_knows.2.1 23 = .ok (.invokestatic 55, 3) := by decide +kernel
theorem d_Isl_knows_26 : decode m_Isl_knows.2.1 26 = .ok (.goto (12), 3) := by decide +kernel
theorem d_Isl_read_0 : decode m_Isl_read.2.1 0 = .ok (.aload_n 0, 1) := by decide +kernel
theorem d_Isl_read_1 : decode m_Isl_read.2.1 1 = .ok (.iload_n 1, 1) := by decide +kernel
theorem d_Isl_read_2 : decode m_Isl_read.2.1 2 = .ok (.iload_n 2, 1) := by decide +kernel
theorem d_Isl_read_3 : decode m_Isl_read.2.1 3 = .ok (.invokevirtual 61, 3) := by decide +kernel
theorem d_Isl_read_6 : decode m_Isl_read.2.1 6 = .ok (.ifCond .ne (6), 3) := by decide +kernel
theorem d_Isl_read_9 : decode m_Isl_read.2.1 9 = .ok (.ldc 64, 2) := by decide +kernel
theorem d_Isl_read_11 : decode m_Isl_read.2.1 11 = .ok (.ireturn, 1) := by decide +kernel
theorem d_Isl_read_12 : decode m_Isl_read.2.1 12 = .ok (.iload_n 2, 1) := by decide +kernel
theorem d_Isl_read_13 : decode m_Isl_read.2.1 13 = .ok (.tableswitch (77) (0) (5) #[39, 46, 53, 60, 67, 72], 39) := by decide +kernel
theorem d_Isl_read_52 : decode m_Isl_read.2.1 52 = .ok (.aload_n 0, 1) := by decide +kernel
theorem d_Isl_read_53 : decode m_Isl_read.2.1 53 = .ok (.getfield 9, 3) := by decide +kernel
theorem d_Isl_read_56 : decode m_Isl_read.2.1 56 = .ok (.iload_n 1, 1) := by decide +kernel
theorem d_Isl_read_57 : decode m_Isl_read.2.1 57 = .ok (.iaload, 1) := by decide +kernel
theorem d_Isl_read_58 : decode m_Isl_read.2.1 58 = .ok (.ireturn, 1) := by decide +kernel
theorem d_Isl_read_59 : decode m_Isl_read.2.1 59 = .ok (.aload_n 0, 1) := by decide +kernel
theorem d_Isl_read_60 : decode m_Isl_read.2.1 60 = .ok (.getfield 15, 3) := by decide +kernel
theorem d_Isl_read_63 : decode m_Isl_read.2.1 63 = .ok (.iload_n 1, 1) := by decide +kernel
theorem d_Isl_read_64 : decode m_Isl_read.2.1 64 = .ok (.iaload, 1) := by decide +kernel
theorem d_Isl_read_65 : decode m_Isl_read.2.1 65 = .ok (.ireturn, 1) := by decide +kernel
theorem d_Isl_read_66 : decode m_Isl_read.2.1 66 = .ok (.aload_n 0, 1) := by decide +kernel
theorem d_Isl_read_67 : decode m_Isl_read.2.1 67 = .ok (.getfield 18, 3) := by decide +kernel
theorem d_Isl_read_70 : decode m_Isl_read.2.1 70 = .ok (.iload_n 1, 1) := by decide +kernel
theorem d_Isl_read_71 : decode m_Isl_read.2.1 71 = .ok (.iaload, 1) := by decide +kernel
theorem d_Isl_read_72 : decode m_Isl_read.2.1 72 = .ok (.ireturn, 1) := by decide +kernel
theorem d_Isl_read_73 : decode m_Isl_read.2.1 73 = .ok (.aload_n 0, 1) := by decide +kernel
theorem d_Isl_read_74 : decode m_Isl_read.2.1 74 = .ok (.getfield 21, 3) := by decide +kernel
theorem d_Isl_read_77 : decode m_Isl_read.2.1 77 = .ok (.iload_n 1, 1) := by decide +kernel
theorem d_Isl_read_78 : decode m_Isl_read.2.1 78 = .ok (.iaload, 1) := by decide +kernel
theorem d_Isl_read_79 : decode m_Isl_read.2.1 79 = .ok (.ireturn, 1) := by decide +kernel
theorem d_Isl_read_80 : decode m_Isl_read.2.1 80 = .ok (.aload_n 0, 1) := by decide +kernel
theorem d_Isl_read_81 : decode m_Isl_read.2.1 81 = .ok (.getfield 65, 3) := by decide +kernel
theorem d_Isl_read_84 : decode m_Isl_read.2.1 84 = .ok (.ireturn, 1) := by decide +kernel
theorem d_Isl_read_85 : decode m_Isl_read.2.1 85 = .ok (.aload_n 0, 1) := by decide +kernel
theorem d_Isl_read_86 : decode m_Isl_read.2.1 86 = .ok (.getfield 68, 3) := by decide +kernel
theorem d_Isl_read_89 : decode m_Isl_read.2.1 89 = .ok (.ireturn, 1) := by decide +kernel
theorem d_Isl_read_90 : decode m_Isl_read.2.1 90 = .ok (.aload_n 0, 1) := by decide +kernel
theorem d_Isl_read_91 : decode m_Isl_read.2.1 91 = .ok (.getfield 71, 3) := by decide +kernel
theorem d_Isl_read_94 : decode m_Isl_read.2.1 94 = .ok (.ireturn, 1) := by decide +kernel
theorem d_Isl_write_0 : decode m_Isl_write.2.1 0 = .ok (.aload_n 0, 1) := by decide +kernel
theorem d_Isl_write_1 : decode m_Isl_write.2.1 1 = .ok (.iload_n 1, 1) := by decide +kernel
theorem d_Isl_write_2 : decode m_Isl_write.2.1 2 = .ok (.iload_n 2, 1) := by decide +kernel
theorem d_Isl_write_3 : decode m_Isl_write.2.1 3 = .ok (.invokevirtual 61, 3) := by decide +kernel
theorem d_Isl_write_6 : decode m_Isl_write.2.1 6 = .ok (.ifCond .eq (11), 3) := by decide +kernel
theorem d_Isl_write_17 : decode m_Isl_write.2.1 17 = .ok (.return_, 1) := by decide +kernel
theorem d_Isl_write_9 : decode m_Isl_write.2.1 9 = .ok (.iload_n 2, 1) := by decide +kernel
theorem d_Isl_write_10 : decode m_Isl_write.2.1 10 = .ok (.iload_n 3, 1) := by decide +kernel
theorem d_Isl_write_11 : decode m_Isl_write.2.1 11 = .ok (.invokestatic 44, 3) := by decide +kernel
theorem d_Isl_write_14 : decode m_Isl_write.2.1 14 = .ok (.ifCond .ne (4), 3) := by decide +kernel
theorem d_Isl_write_18 : decode m_Isl_write.2.1 18 = .ok (.iload_n 2, 1) := by decide +kernel
theorem d_Isl_write_19 : decode m_Isl_write.2.1 19 = .ok (.tableswitch (93) (0) (5) #[37, 47, 57, 67, 77, 85], 37) := by decide +kernel
theorem d_Isl_write_56 : decode m_Isl_write.2.1 56 = .ok (.aload_n 0, 1) := by decide +kernel
theorem d_Isl_write_57 : decode m_Isl_write.2.1 57 = .ok (.getfield 9, 3) := by decide +kernel
theorem d_Isl_write_60 : decode m_Isl_write.2.1 60 = .ok (.iload_n 1, 1) := by decide +kernel
theorem d_Isl_write_61 : decode m_Isl_write.2.1 61 = .ok (.iload_n 3, 1) := by decide +kernel
theorem d_Isl_write_62 : decode m_Isl_write.2.1 62 = .ok (.iastore, 1) := by decide +kernel
theorem d_Isl_write_63 : decode m_Isl_write.2.1 63 = .ok (.goto (54), 3) := by decide +kernel
theorem d_Isl_write_117 : decode m_Isl_write.2.1 117 = .ok (.return_, 1) := by decide +kernel
theorem d_Isl_write_66 : decode m_Isl_write.2.1 66 = .ok (.aload_n 0, 1) := by decide +kernel
theorem d_Isl_write_67 : decode m_Isl_write.2.1 67 = .ok (.getfield 15, 3) := by decide +kernel
theorem d_Isl_write_70 : decode m_Isl_write.2.1 70 = .ok (.iload_n 1, 1) := by decide +kernel
theorem d_Isl_write_71 : decode m_Isl_write.2.1 71 = .ok (.iload_n 3, 1) := by decide +kernel
theorem d_Isl_write_72 : decode m_Isl_write.2.1 72 = .ok (.iastore, 1) := by decide +kernel
theorem d_Isl_write_73 : decode m_Isl_write.2.1 73 = .ok (.goto (44), 3) := by decide +kernel
theorem d_Isl_write_76 : decode m_Isl_write.2.1 76 = .ok (.aload_n 0, 1) := by decide +kernel
theorem d_Isl_write_77 : decode m_Isl_write.2.1 77 = .ok (.getfield 18, 3) := by decide +kernel
theorem d_Isl_write_80 : decode m_Isl_write.2.1 80 = .ok (.iload_n 1, 1) := by decide +kernel
theorem d_Isl_write_81 : decode m_Isl_write.2.1 81 = .ok (.iload_n 3, 1) := by decide +kernel
theorem d_Isl_write_82 : decode m_Isl_write.2.1 82 = .ok (.iastore, 1) := by decide +kernel
theorem d_Isl_write_83 : decode m_Isl_write.2.1 83 = .ok (.goto (34), 3) := by decide +kernel
theorem d_Isl_write_86 : decode m_Isl_write.2.1 86 = .ok (.aload_n 0, 1) := by decide +kernel
theorem d_Isl_write_87 : decode m_Isl_write.2.1 87 = .ok (.getfield 21, 3) := by decide +kernel
theorem d_Isl_write_90 : decode m_Isl_write.2.1 90 = .ok (.iload_n 1, 1) := by decide +kernel
theorem d_Isl_write_91 : decode m_Isl_write.2.1 91 = .ok (.iload_n 3, 1) := by decide +kernel
theorem d_Isl_write_92 : decode m_Isl_write.2.1 92 = .ok (.iastore, 1) := by decide +kernel
theorem d_Isl_write_93 : decode m_Isl_write.2.1 93 = .ok (.goto (24), 3) := by decide +kernel
theorem d_Isl_write_96 : decode m_Isl_write.2.1 96 = .ok (.aload_n 0, 1) := by decide +kernel
theorem d_Isl_write_97 : decode m_Isl_write.2.1 97 = .ok (.iload_n 3, 1) := by decide +kernel
theorem d_Isl_write_98 : decode m_Isl_write.2.1 98 = .ok (.putfield 65, 3) := by decide +kernel
theorem d_Isl_write_101 : decode m_Isl_write.2.1 101 = .ok (.goto (16), 3) := by decide +kernel
theorem d_Isl_write_104 : decode m_Isl_write.2.1 104 = .ok (.aload_n 0, 1) := by decide +kernel
theorem d_Isl_write_105 : decode m_Isl_write.2.1 105 = .ok (.iload_n 3, 1) := by decide +kernel
theorem d_Isl_write_106 : decode m_Isl_write.2.1 106 = .ok (.putfield 68, 3) := by decide +kernel
theorem d_Isl_write_109 : decode m_Isl_write.2.1 109 = .ok (.goto (8), 3) := by decide +kernel
theorem d_Isl_write_112 : decode m_Isl_write.2.1 112 = .ok (.aload_n 0, 1) := by decide +kernel
theorem d_Isl_write_113 : decode m_Isl_write.2.1 113 = .ok (.iload_n 3, 1) := by decide +kernel
theorem d_Isl_write_114 : decode m_Isl_write.2.1 114 = .ok (.putfield 71, 3) := by decide +kernel
theorem d_T_mend_0 : decode m_T_mend.2.1 0 = .ok (.aload_n 0, 1) := by decide +kernel
theorem d_T_mend_1 : decode m_T_mend.2.1 1 = .ok (.getfield 10, 3) := by decide +kernel
theorem d_T_mend_4 : decode m_T_mend.2.1 4 = .ok (.iload_n 1, 1) := by decide +kernel
theorem d_T_mend_5 : decode m_T_mend.2.1 5 = .ok (.iload_n 2, 1) := by decide +kernel
theorem d_T_mend_6 : decode m_T_mend.2.1 6 = .ok (.invokevirtual 95, 3) := by decide +kernel
theorem d_T_mend_9 : decode m_T_mend.2.1 9 = .ok (.ifCond .eq (11), 3) := by decide +kernel
theorem d_T_mend_20 : decode m_T_mend.2.1 20 = .ok (.ldc 101, 2) := by decide +kernel
theorem d_T_mend_22 : decode m_T_mend.2.1 22 = .ok (.ireturn, 1) := by decide +kernel
theorem d_T_mend_12 : decode m_T_mend.2.1 12 = .ok (.iload_n 2, 1) := by decide +kernel
theorem d_T_mend_13 : decode m_T_mend.2.1 13 = .ok (.iload_n 3, 1) := by decide +kernel
theorem d_T_mend_14 : decode m_T_mend.2.1 14 = .ok (.invokestatic 98, 3) := by decide +kernel
theorem d_T_mend_17 : decode m_T_mend.2.1 17 = .ok (.ifCond .ne (6), 3) := by decide +kernel
theorem d_T_mend_23 : decode m_T_mend.2.1 23 = .ok (.aload_n 0, 1) := by decide +kernel
theorem d_T_mend_24 : decode m_T_mend.2.1 24 = .ok (.getfield 10, 3) := by decide +kernel
theorem d_T_mend_27 : decode m_T_mend.2.1 27 = .ok (.iload_n 1, 1) := by decide +kernel
theorem d_T_mend_28 : decode m_T_mend.2.1 28 = .ok (.iload_n 2, 1) := by decide +kernel
theorem d_T_mend_29 : decode m_T_mend.2.1 29 = .ok (.invokevirtual 102, 3) := by decide +kernel
theorem d_T_mend_32 : decode m_T_mend.2.1 32 = .ok (.istore 4, 2) := by decide +kernel
theorem d_T_mend_34 : decode m_T_mend.2.1 34 = .ok (.iload 4, 2) := by decide +kernel
theorem d_T_mend_36 : decode m_T_mend.2.1 36 = .ok (.iload_n 3, 1) := by decide +kernel
theorem d_T_mend_37 : decode m_T_mend.2.1 37 = .ok (.if_icmp .eq (25), 3) := by decide +kernel
theorem d_T_mend_62 : decode m_T_mend.2.1 62 = .ok (.iload 4, 2) := by decide +kernel
theorem d_T_mend_64 : decode m_T_mend.2.1 64 = .ok (.ireturn, 1) := by decide +kernel
theorem d_T_mend_40 : decode m_T_mend.2.1 40 = .ok (.aload_n 0, 1) := by decide +kernel
theorem d_T_mend_41 : decode m_T_mend.2.1 41 = .ok (.getfield 40, 3) := by decide +kernel
theorem d_T_mend_44 : decode m_T_mend.2.1 44 = .ok (.iload_n 1, 1) := by decide +kernel
theorem d_T_mend_45 : decode m_T_mend.2.1 45 = .ok (.iload_n 2, 1) := by decide +kernel
theorem d_T_mend_46 : decode m_T_mend.2.1 46 = .ok (.iload 4, 2) := by decide +kernel
theorem d_T_mend_48 : decode m_T_mend.2.1 48 = .ok (.iload_n 3, 1) := by decide +kernel
theorem d_T_mend_49 : decode m_T_mend.2.1 49 = .ok (.invokevirtual 106, 3) := by decide +kernel
theorem d_T_mend_52 : decode m_T_mend.2.1 52 = .ok (.aload_n 0, 1) := by decide +kernel
theorem d_T_mend_53 : decode m_T_mend.2.1 53 = .ok (.getfield 10, 3) := by decide +kernel
theorem d_T_mend_56 : decode m_T_mend.2.1 56 = .ok (.iload_n 1, 1) := by decide +kernel
theorem d_T_mend_57 : decode m_T_mend.2.1 57 = .ok (.iload_n 2, 1) := by decide +kernel
theorem d_T_mend_58 : decode m_T_mend.2.1 58 = .ok (.iload_n 3, 1) := by decide +kernel
theorem d_T_mend_59 : decode m_T_mend.2.1 59 = .ok (.invokevirtual 110, 3) := by decide +kernel
theorem d_T_of_0 : decode m_T_of.2.1 0 = .ok (.aload_n 0, 1) := by decide +kernel
theorem d_T_of_1 : decode m_T_of.2.1 1 = .ok (.getfield 10, 3) := by decide +kernel
theorem d_T_of_4 : decode m_T_of.2.1 4 = .ok (.iload_n 1, 1) := by decide +kernel
theorem d_T_of_5 : decode m_T_of.2.1 5 = .ok (.iload_n 2, 1) := by decide +kernel
theorem d_T_of_6 : decode m_T_of.2.1 6 = .ok (.invokevirtual 95, 3) := by decide +kernel
theorem d_T_of_9 : decode m_T_of.2.1 9 = .ok (.ifCond .eq (15), 3) := by decide +kernel
theorem d_T_of_24 : decode m_T_of.2.1 24 = .ok (.ldc 101, 2) := by decide +kernel
theorem d_T_of_26 : decode m_T_of.2.1 26 = .ok (.ireturn, 1) := by decide +kernel
theorem d_T_of_12 : decode m_T_of.2.1 12 = .ok (.aload_n 0, 1) := by decide +kernel
theorem d_T_of_13 : decode m_T_of.2.1 13 = .ok (.getfield 10, 3) := by decide +kernel
theorem d_T_of_16 : decode m_T_of.2.1 16 = .ok (.iload_n 1, 1) := by decide +kernel
theorem d_T_of_17 : decode m_T_of.2.1 17 = .ok (.iload_n 2, 1) := by decide +kernel
theorem d_T_of_18 : decode m_T_of.2.1 18 = .ok (.invokevirtual 102, 3) := by decide +kernel
theorem d_T_of_21 : decode m_T_of.2.1 21 = .ok (.goto (5), 3) := by decide +kernel
theorem d_Pa_hear_0 : decode m_Pa_hear.2.1 0 = .ok (.aload_n 0, 1) := by decide +kernel
theorem d_Pa_hear_1 : decode m_Pa_hear.2.1 1 = .ok (.getfield 23, 3) := by decide +kernel
theorem d_Pa_hear_4 : decode m_Pa_hear.2.1 4 = .ok (.bipush (120), 2) := by decide +kernel
theorem d_Pa_hear_6 : decode m_Pa_hear.2.1 6 = .ok (.if_icmp .lt (6), 3) := by decide +kernel
theorem d_Pa_hear_12 : decode m_Pa_hear.2.1 12 = .ok (.aload_n 0, 1) := by decide +kernel
theorem d_Pa_hear_13 : decode m_Pa_hear.2.1 13 = .ok (.getfield 11, 3) := by decide +kernel
theorem d_Pa_hear_16 : decode m_Pa_hear.2.1 16 = .ok (.aload_n 0, 1) := by decide +kernel
theorem d_Pa_hear_17 : decode m_Pa_hear.2.1 17 = .ok (.getfield 23, 3) := by decide +kernel
theorem d_Pa_hear_20 : decode m_Pa_hear.2.1 20 = .ok (.iload_n 1, 1) := by decide +kernel
theorem d_Pa_hear_21 : decode m_Pa_hear.2.1 21 = .ok (.iastore, 1) := by decide +kernel
theorem d_Pa_hear_22 : decode m_Pa_hear.2.1 22 = .ok (.aload_n 0, 1) := by decide +kernel
theorem d_Pa_hear_23 : decode m_Pa_hear.2.1 23 = .ok (.dup, 1) := by decide +kernel
theorem d_Pa_hear_24 : decode m_Pa_hear.2.1 24 = .ok (.getfield 23, 3) := by decide +kernel
theorem d_Pa_hear_27 : decode m_Pa_hear.2.1 27 = .ok (.iconst 1, 1) := by decide +kernel
theorem d_Pa_hear_28 : decode m_Pa_hear.2.1 28 = .ok (.iadd, 1) := by decide +kernel
theorem d_Pa_hear_29 : decode m_Pa_hear.2.1 29 = .ok (.putfield 23, 3) := by decide +kernel
theorem d_Pa_hear_32 : decode m_Pa_hear.2.1 32 = .ok (.aload_n 0, 1) := by decide +kernel
theorem d_Pa_hear_33 : decode m_Pa_hear.2.1 33 = .ok (.getfield 23, 3) := by decide +kernel
theorem d_Pa_hear_36 : decode m_Pa_hear.2.1 36 = .ok (.ireturn, 1) := by decide +kernel
theorem d_Pa_hear_9 : decode m_Pa_hear.2.1 9 = .ok (.bipush (-3), 2) := by decide +kernel
theorem d_Pa_hear_11 : decode m_Pa_hear.2.1 11 = .ok (.ireturn, 1) := by decide +kernel
theorem d_T_feed_0 : decode m_T_feed.2.1 0 = .ok (.iload_n 1, 1) := by decide +kernel
theorem d_T_feed_1 : decode m_T_feed.2.1 1 = .ok (.sipush (256), 3) := by decide +kernel
theorem d_T_feed_4 : decode m_T_feed.2.1 4 = .ok (.invokestatic 72, 3) := by decide +kernel
theorem d_T_feed_7 : decode m_T_feed.2.1 7 = .ok (.ifCond .ne (5), 3) := by decide +kernel
theorem d_T_feed_10 : decode m_T_feed.2.1 10 = .ok (.iconst (-1), 1) := by decide +kernel
theorem d_T_feed_11 : decode m_T_feed.2.1 11 = .ok (.ireturn, 1) := by decide +kernel
theorem d_T_feed_12 : decode m_T_feed.2.1 12 = .ok (.aload_n 0, 1) := by decide +kernel
theorem d_T_feed_13 : decode m_T_feed.2.1 13 = .ok (.getfield 33, 3) := by decide +kernel
theorem d_T_feed_16 : decode m_T_feed.2.1 16 = .ok (.iload_n 1, 1) := by decide +kernel
theorem d_T_feed_17 : decode m_T_feed.2.1 17 = .ok (.invokevirtual 114, 3) := by decide +kernel
theorem d_T_feed_20 : decode m_T_feed.2.1 20 = .ok (.ireturn, 1) := by decide +kernel
theorem d_Pa_next_0 : decode m_Pa_next.2.1 0 = .ok (.aload_n 0, 1) := by decide +kernel
theorem d_Pa_next_1 : decode m_Pa_next.2.1 1 = .ok (.getfield 30, 3) := by decide +kernel
theorem d_Pa_next_4 : decode m_Pa_next.2.1 4 = .ok (.aload_n 0, 1) := by decide +kernel
theorem d_Pa_next_5 : decode m_Pa_next.2.1 5 = .ok (.getfield 23, 3) := by decide +kernel
theorem d_Pa_next_8 : decode m_Pa_next.2.1 8 = .ok (.if_icmp .ge (27), 3) := by decide +kernel
theorem d_Pa_next_35 : decode m_Pa_next.2.1 35 = .ok (.iconst (-1), 1) := by decide +kernel
theorem d_Pa_next_36 : decode m_Pa_next.2.1 36 = .ok (.ireturn, 1) := by decide +kernel
theorem d_Pa_next_11 : decode m_Pa_next.2.1 11 = .ok (.aload_n 0, 1) := by decide +kernel
theorem d_Pa_next_12 : decode m_Pa_next.2.1 12 = .ok (.getfield 30, 3) := by decide +kernel
theorem d_Pa_next_15 : decode m_Pa_next.2.1 15 = .ok (.bipush (120), 2) := by decide +kernel
theorem d_Pa_next_17 : decode m_Pa_next.2.1 17 = .ok (.invokestatic 67, 3) := by decide +kernel
theorem d_Pa_next_20 : decode m_Pa_next.2.1 20 = .ok (.ifCond .eq (15), 3) := by decide +kernel
theorem d_Pa_next_23 : decode m_Pa_next.2.1 23 = .ok (.aload_n 0, 1) := by decide +kernel
theorem d_Pa_next_24 : decode m_Pa_next.2.1 24 = .ok (.getfield 11, 3) := by decide +kernel
theorem d_Pa_next_27 : decode m_Pa_next.2.1 27 = .ok (.aload_n 0, 1) := by decide +kernel
theorem d_Pa_next_28 : decode m_Pa_next.2.1 28 = .ok (.getfield 30, 3) := by decide +kernel
theorem d_Pa_next_31 : decode m_Pa_next.2.1 31 = .ok (.iaload, 1) := by decide +kernel
theorem d_Pa_next_32 : decode m_Pa_next.2.1 32 = .ok (.goto (4), 3) := by decide +kernel
theorem d_Pa_meets_0 : decode m_Pa_meets.2.1 0 = .ok (.aload_n 0, 1) := by decide +kernel
theorem d_Pa_meets_1 : decode m_Pa_meets.2.1 1 = .ok (.getfield 33, 3) := by decide +kernel
theorem d_Pa_meets_4 : decode m_Pa_meets.2.1 4 = .ok (.iconst (-1), 1) := by decide +kernel
theorem d_Pa_meets_5 : decode m_Pa_meets.2.1 5 = .ok (.if_icmp .ne (11), 3) := by decide +kernel
theorem d_Pa_meets_8 : decode m_Pa_meets.2.1 8 = .ok (.aload_n 0, 1) := by decide +kernel
theorem d_Pa_meets_9 : decode m_Pa_meets.2.1 9 = .ok (.invokevirtual 75, 3) := by decide +kernel
theorem d_Pa_meets_12 : decode m_Pa_meets.2.1 12 = .ok (.iload_n 1, 1) := by decide +kernel
theorem d_Pa_meets_13 : decode m_Pa_meets.2.1 13 = .ok (.if_icmp .eq (5), 3) := by decide +kernel
theorem d_Pa_meets_18 : decode m_Pa_meets.2.1 18 = .ok (.aload_n 0, 1) := by decide +kernel
theorem d_Pa_meets_19 : decode m_Pa_meets.2.1 19 = .ok (.dup, 1) := by decide +kernel
theorem d_Pa_meets_20 : decode m_Pa_meets.2.1 20 = .ok (.getfield 30, 3) := by decide +kernel
theorem d_Pa_meets_23 : decode m_Pa_meets.2.1 23 = .ok (.iconst 1, 1) := by decide +kernel
theorem d_Pa_meets_24 : decode m_Pa_meets.2.1 24 = .ok (.iadd, 1) := by decide +kernel
theorem d_Pa_meets_25 : decode m_Pa_meets.2.1 25 = .ok (.putfield 30, 3) := by decide +kernel
theorem d_Pa_meets_28 : decode m_Pa_meets.2.1 28 = .ok (.iconst 1, 1) := by decide +kernel
theorem d_Pa_meets_29 : decode m_Pa_meets.2.1 29 = .ok (.ireturn, 1) := by decide +kernel
theorem d_Pa_meets_16 : decode m_Pa_meets.2.1 16 = .ok (.iconst 0, 1) := by decide +kernel
theorem d_Pa_meets_17 : decode m_Pa_meets.2.1 17 = .ok (.ireturn, 1) := by decide +kernel
theorem d_Pa_emit_0 : decode m_Pa_emit.2.1 0 = .ok (.aload_n 0, 1) := by decide +kernel
theorem d_Pa_emit_1 : decode m_Pa_emit.2.1 1 = .ok (.getfield 27, 3) := by decide +kernel
theorem d_Pa_emit_4 : decode m_Pa_emit.2.1 4 = .ok (.sipush (128), 3) := by decide +kernel
theorem d_Pa_emit_7 : decode m_Pa_emit.2.1 7 = .ok (.if_icmp .ge (33), 3) := by decide +kernel
theorem d_Pa_emit_40 : decode m_Pa_emit.2.1 40 = .ok (.return_, 1) := by decide +kernel
theorem d_Pa_emit_10 : decode m_Pa_emit.2.1 10 = .ok (.aload_n 0, 1) := by decide +kernel
theorem d_Pa_emit_11 : decode m_Pa_emit.2.1 11 = .ok (.getfield 17, 3) := by decide +kernel
theorem d_Pa_emit_14 : decode m_Pa_emit.2.1 14 = .ok (.aload_n 0, 1) := by decide +kernel
theorem d_Pa_emit_15 : decode m_Pa_emit.2.1 15 = .ok (.getfield 27, 3) := by decide +kernel
theorem d_Pa_emit_18 : decode m_Pa_emit.2.1 18 = .ok (.iload_n 1, 1) := by decide +kernel
theorem d_Pa_emit_19 : decode m_Pa_emit.2.1 19 = .ok (.iastore, 1) := by decide +kernel
theorem d_Pa_emit_20 : decode m_Pa_emit.2.1 20 = .ok (.aload_n 0, 1) := by decide +kernel
theorem d_Pa_emit_21 : decode m_Pa_emit.2.1 21 = .ok (.getfield 20, 3) := by decide +kernel
theorem d_Pa_emit_24 : decode m_Pa_emit.2.1 24 = .ok (.aload_n 0, 1) := by decide +kernel
theorem d_Pa_emit_25 : decode m_Pa_emit.2.1 25 = .ok (.getfield 27, 3) := by decide +kernel
theorem d_Pa_emit_28 : decode m_Pa_emit.2.1 28 = .ok (.iload_n 2, 1) := by decide +kernel
theorem d_Pa_emit_29 : decode m_Pa_emit.2.1 29 = .ok (.iastore, 1) := by decide +kernel
theorem d_Pa_emit_30 : decode m_Pa_emit.2.1 30 = .ok (.aload_n 0, 1) := by decide +kernel
theorem d_Pa_emit_31 : decode m_Pa_emit.2.1 31 = .ok (.dup, 1) := by decide +kernel
theorem d_Pa_emit_32 : decode m_Pa_emit.2.1 32 = .ok (.getfield 27, 3) := by decide +kernel
theorem d_Pa_emit_35 : decode m_Pa_emit.2.1 35 = .ok (.iconst 1, 1) := by decide +kernel
theorem d_Pa_emit_36 : decode m_Pa_emit.2.1 36 = .ok (.iadd, 1) := by decide +kernel
theorem d_Pa_emit_37 : decode m_Pa_emit.2.1 37 = .ok (.putfield 27, 3) := by decide +kernel
theorem d_Pa_rankOf_0 : decode m_Pa_rankOf.2.1 0 = .ok (.iload_n 0, 1) := by decide +kernel
theorem d_Pa_rankOf_1 : decode m_Pa_rankOf.2.1 1 = .ok (.lookupswitch (101) #[(37, 99), (38, 93), (42, 99), (43, 97), (45, 97), (47, 99), (60, 95), (61, 95), (62, 95), (124, 91)], 91) := by decide +kernel
theorem d_Pa_rankOf_100 : decode m_Pa_rankOf.2.1 100 = .ok (.iconst 4, 1) := by decide +kernel
theorem d_Pa_rankOf_101 : decode m_Pa_rankOf.2.1 101 = .ok (.ireturn, 1) := by decide +kernel
theorem d_Pa_rankOf_94 : decode m_Pa_rankOf.2.1 94 = .ok (.iconst 1, 1) := by decide +kernel
theorem d_Pa_rankOf_95 : decode m_Pa_rankOf.2.1 95 = .ok (.ireturn, 1) := by decide +kernel
theorem d_Pa_rankOf_98 : decode m_Pa_rankOf.2.1 98 = .ok (.iconst 3, 1) := by decide +kernel
theorem d_Pa_rankOf_99 : decode m_Pa_rankOf.2.1 99 = .ok (.ireturn, 1) := by decide +kernel
theorem d_Pa_rankOf_96 : decode m_Pa_rankOf.2.1 96 = .ok (.iconst 2, 1) := by decide +kernel
theorem d_Pa_rankOf_97 : decode m_Pa_rankOf.2.1 97 = .ok (.ireturn, 1) := by decide +kernel
theorem d_Pa_rankOf_92 : decode m_Pa_rankOf.2.1 92 = .ok (.iconst 0, 1) := by decide +kernel
theorem d_Pa_rankOf_93 : decode m_Pa_rankOf.2.1 93 = .ok (.ireturn, 1) := by decide +kernel
theorem d_Pa_rankOf_102 : decode m_Pa_rankOf.2.1 102 = .ok (.iconst (-1), 1) := by decide +kernel
theorem d_Pa_rankOf_103 : decode m_Pa_rankOf.2.1 103 = .ok (.ireturn, 1) := by decide +kernel
theorem d_Pa_isDigit_0 : decode m_Pa_isDigit.2.1 0 = .ok (.iload_n 0, 1) := by decide +kernel
theorem d_Pa_isDigit_1 : decode m_Pa_isDigit.2.1 1 = .ok (.bipush (48), 2) := by decide +kernel
theorem d_Pa_isDigit_3 : decode m_Pa_isDigit.2.1 3 = .ok (.if_icmp .lt (13), 3) := by decide +kernel
theorem d_Pa_isDigit_16 : decode m_Pa_isDigit.2.1 16 = .ok (.iconst 0, 1) := by decide +kernel
theorem d_Pa_isDigit_17 : decode m_Pa_isDigit.2.1 17 = .ok (.ireturn, 1) := by decide +kernel
theorem d_Pa_isDigit_6 : decode m_Pa_isDigit.2.1 6 = .ok (.iload_n 0, 1) := by decide +kernel
theorem d_Pa_isDigit_7 : decode m_Pa_isDigit.2.1 7 = .ok (.bipush (57), 2) := by decide +kernel
theorem d_Pa_isDigit_9 : decode m_Pa_isDigit.2.1 9 = .ok (.if_icmp .gt (7), 3) := by decide +kernel
theorem d_Pa_isDigit_12 : decode m_Pa_isDigit.2.1 12 = .ok (.iconst 1, 1) := by decide +kernel
theorem d_Pa_isDigit_13 : decode m_Pa_isDigit.2.1 13 = .ok (.goto (4), 3) := by decide +kernel
theorem d_Pa_readNumber_0 : decode m_Pa_readNumber.2.1 0 = .ok (.iconst 0, 1) := by decide +kernel
theorem d_Pa_readNumber_1 : decode m_Pa_readNumber.2.1 1 = .ok (.istore_n 1, 1) := by decide +kernel
theorem d_Pa_readNumber_2 : decode m_Pa_readNumber.2.1 2 = .ok (.iconst 0, 1) := by decide +kernel
theorem d_Pa_readNumber_3 : decode m_Pa_readNumber.2.1 3 = .ok (.istore_n 2, 1) := by decide +kernel
theorem d_Pa_readNumber_4 : decode m_Pa_readNumber.2.1 4 = .ok (.iload_n 2, 1) := by decide +kernel
theorem d_Pa_readNumber_5 : decode m_Pa_readNumber.2.1 5 = .ok (.iconst 4, 1) := by decide +kernel
theorem d_Pa_readNumber_6 : decode m_Pa_readNumber.2.1 6 = .ok (.if_icmp .ge (42), 3) := by decide +kernel
theorem d_Pa_readNumber_48 : decode m_Pa_readNumber.2.1 48 = .ok (.aload_n 0, 1) := by decide +kernel
theorem d_Pa_readNumber_49 : decode m_Pa_readNumber.2.1 49 = .ok (.iconst 1, 1) := by decide +kernel
theorem d_Pa_readNumber_50 : decode m_Pa_readNumber.2.1 50 = .ok (.iload_n 1, 1) := by decide +kernel
theorem d_Pa_readNumber_51 : decode m_Pa_readNumber.2.1 51 = .ok (.invokevirtual 64, 3) := by decide +kernel
theorem d_Pa_readNumber_54 : decode m_Pa_readNumber.2.1 54 = .ok (.return_, 1) := by decide +kernel
theorem d_Pa_readNumber_9 : decode m_Pa_readNumber.2.1 9 = .ok (.aload_n 0, 1) := by decide +kernel
theorem d_Pa_readNumber_10 : decode m_Pa_readNumber.2.1 10 = .ok (.invokevirtual 75, 3) := by decide +kernel
theorem d_Pa_readNumber_13 : decode m_Pa_readNumber.2.1 13 = .ok (.invokestatic 90, 3) := by decide +kernel
theorem d_Pa_readNumber_16 : decode m_Pa_readNumber.2.1 16 = .ok (.ifCond .eq (32), 3) := by decide +kernel
theorem d_Pa_readNumber_19 : decode m_Pa_readNumber.2.1 19 = .ok (.iload_n 1, 1) := by decide +kernel
theorem d_Pa_readNumber_20 : decode m_Pa_readNumber.2.1 20 = .ok (.bipush (10), 2) := by decide +kernel
theorem d_Pa_readNumber_22 : decode m_Pa_readNumber.2.1 22 = .ok (.imul, 1) := by decide +kernel
theorem d_Pa_readNumber_23 : decode m_Pa_readNumber.2.1 23 = .ok (.aload_n 0, 1) := by decide +kernel
theorem d_Pa_readNumber_24 : decode m_Pa_readNumber.2.1 24 = .ok (.invokevirtual 75, 3) := by decide +kernel
theorem d_Pa_readNumber_27 : decode m_Pa_readNumber.2.1 27 = .ok (.iadd, 1) := by decide +kernel
theorem d_Pa_readNumber_28 : decode m_Pa_readNumber.2.1 28 = .ok (.bipush (48), 2) := by decide +kernel
theorem d_Pa_readNumber_30 : decode m_Pa_readNumber.2.1 30 = .ok (.isub, 1) := by decide +kernel
theorem d_Pa_readNumber_31 : decode m_Pa_readNumber.2.1 31 = .ok (.istore_n 1, 1) := by decide +kernel
theorem d_Pa_readNumber_32 : decode m_Pa_readNumber.2.1 32 = .ok (.aload_n 0, 1) := by decide +kernel
theorem d_Pa_readNumber_33 : decode m_Pa_readNumber.2.1 33 = .ok (.dup, 1) := by decide +kernel
theorem d_Pa_readNumber_34 : decode m_Pa_readNumber.2.1 34 = .ok (.getfield 30, 3) := by decide +kernel
theorem d_Pa_readNumber_37 : decode m_Pa_readNumber.2.1 37 = .ok (.iconst 1, 1) := by decide +kernel
theorem d_Pa_readNumber_38 : decode m_Pa_readNumber.2.1 38 = .ok (.iadd, 1) := by decide +kernel
theorem d_Pa_readNumber_39 : decode m_Pa_readNumber.2.1 39 = .ok (.putfield 30, 3) := by decide +kernel
theorem d_Pa_readNumber_42 : decode m_Pa_readNumber.2.1 42 = .ok (.iinc 2 (1), 3) := by decide +kernel
theorem d_Pa_readNumber_45 : decode m_Pa_readNumber.2.1 45 = .ok (.goto (-41), 3) := by decide +kernel
theorem d_Pa_refuse_0 : decode m_Pa_refuse.2.1 0 = .ok (.aload_n 0, 1) := by decide +kernel
theorem d_Pa_refuse_1 : decode m_Pa_refuse.2.1 1 = .ok (.getfield 33, 3) := by decide +kernel
theorem d_Pa_refuse_4 : decode m_Pa_refuse.2.1 4 = .ok (.iconst (-1), 1) := by decide +kernel
theorem d_Pa_refuse_5 : decode m_Pa_refuse.2.1 5 = .ok (.if_icmp .ne (11), 3) := by decide +kernel
theorem d_Pa_refuse_8 : decode m_Pa_refuse.2.1 8 = .ok (.aload_n 0, 1) := by decide +kernel
theorem d_Pa_refuse_9 : decode m_Pa_refuse.2.1 9 = .ok (.aload_n 0, 1) := by decide +kernel
theorem d_Pa_refuse_10 : decode m_Pa_refuse.2.1 10 = .ok (.getfield 30, 3) := by decide +kernel
theorem d_Pa_refuse_13 : decode m_Pa_refuse.2.1 13 = .ok (.putfield 33, 3) := by decide +kernel
theorem d_Pa_refuse_16 : decode m_Pa_refuse.2.1 16 = .ok (.return_, 1) := by decide +kernel
theorem d_JS_isLatin1_0 : decode m_JS_isLatin1.2.1 0 = .ok (.getstatic 38, 3) := by decide +kernel
theorem d_JS_isLatin1_3 : decode m_JS_isLatin1.2.1 3 = .ok (.ifCond .eq (14), 3) := by decide +kernel
theorem d_JS_isLatin1_17 : decode m_JS_isLatin1.2.1 17 = .ok (.iconst 0, 1) := by decide +kernel
theorem d_JS_isLatin1_18 : decode m_JS_isLatin1.2.1 18 = .ok (.ireturn, 1) := by decide +kernel
theorem d_JS_isLatin1_6 : decode m_JS_isLatin1.2.1 6 = .ok (.aload_n 0, 1) := by decide +kernel
theorem d_JS_isLatin1_7 : decode m_JS_isLatin1.2.1 7 = .ok (.getfield 15, 3) := by decide +kernel
theorem d_JS_isLatin1_10 : decode m_JS_isLatin1.2.1 10 = .ok (.ifCond .ne (7), 3) := by decide +kernel
theorem d_JS_isLatin1_13 : decode m_JS_isLatin1.2.1 13 = .ok (.iconst 1, 1) := by decide +kernel
theorem d_JS_isLatin1_14 : decode m_JS_isLatin1.2.1 14 = .ok (.goto (4), 3) := by decide +kernel
theorem d_JS_coder_0 : decode m_JS_coder.2.1 0 = .ok (.getstatic 38, 3) := by decide +kernel
theorem d_JS_coder_3 : decode m_JS_coder.2.1 3 = .ok (.ifCond .eq (10), 3) := by decide +kernel
theorem d_JS_coder_13 : decode m_JS_coder.2.1 13 = .ok (.iconst 1, 1) := by decide +kernel
theorem d_JS_coder_14 : decode m_JS_coder.2.1 14 = .ok (.ireturn, 1) := by decide +kernel
theorem d_JS_coder_6 : decode m_JS_coder.2.1 6 = .ok (.aload_n 0, 1) := by decide +kernel
theorem d_JS_coder_7 : decode m_JS_coder.2.1 7 = .ok (.getfield 15, 3) := by decide +kernel
theorem d_JS_coder_10 : decode m_JS_coder.2.1 10 = .ok (.goto (4), 3) := by decide +kernel
theorem d_JS_length_0 : decode m_JS_length.2.1 0 = .ok (.aload_n 0, 1) := by decide +kernel
theorem d_JS_length_1 : decode m_JS_length.2.1 1 = .ok (.getfield 9, 3) := by decide +kernel
theorem d_JS_length_4 : decode m_JS_length.2.1 4 = .ok (.arraylength, 1) := by decide +kernel
theorem d_JS_length_5 : decode m_JS_length.2.1 5 = .ok (.aload_n 0, 1) := by decide +kernel
theorem d_JS_length_6 : decode m_JS_length.2.1 6 = .ok (.invokevirtual 335, 3) := by decide +kernel
theorem d_JS_length_9 : decode m_JS_length.2.1 9 = .ok (.ishr, 1) := by decide +kernel
theorem d_JS_length_10 : decode m_JS_length.2.1 10 = .ok (.ireturn, 1) := by decide +kernel
theorem d_JL_canEncode_0 : decode m_JL_canEncode.2.1 0 = .ok (.iload_n 0, 1) := by decide +kernel
theorem d_JL_canEncode_1 : decode m_JL_canEncode.2.1 1 = .ok (.ifCond .lt (14), 3) := by decide +kernel
theorem d_JL_canEncode_15 : decode m_JL_canEncode.2.1 15 = .ok (.iconst 0, 1) := by decide +kernel
theorem d_JL_canEncode_16 : decode m_JL_canEncode.2.1 16 = .ok (.ireturn, 1) := by decide +kernel
theorem d_JL_canEncode_4 : decode m_JL_canEncode.2.1 4 = .ok (.iload_n 0, 1) := by decide +kernel
theorem d_JL_canEncode_5 : decode m_JL_canEncode.2.1 5 = .ok (.sipush (255), 3) := by decide +kernel
theorem d_JL_canEncode_8 : decode m_JL_canEncode.2.1 8 = .ok (.if_icmp .gt (7), 3) := by decide +kernel
theorem d_JL_canEncode_11 : decode m_JL_canEncode.2.1 11 = .ok (.iconst 1, 1) := by decide +kernel
theorem d_JL_canEncode_12 : decode m_JL_canEncode.2.1 12 = .ok (.goto (4), 3) := by decide +kernel
theorem d_JL_indexOfChar_0 : decode m_JL_indexOfChar.2.1 0 = .ok (.iload_n 1, 1) := by decide +kernel
theorem d_JL_indexOfChar_1 : decode m_JL_indexOfChar.2.1 1 = .ok (.i2b, 1) := by decide +kernel
theorem d_JL_indexOfChar_2 : decode m_JL_indexOfChar.2.1 2 = .ok (.istore 4, 2) := by decide +kernel
theorem d_JL_indexOfChar_4 : decode m_JL_indexOfChar.2.1 4 = .ok (.iload_n 2, 1) := by decide +kernel
theorem d_JL_indexOfChar_5 : decode m_JL_indexOfChar.2.1 5 = .ok (.istore 5, 2) := by decide +kernel
theorem d_JL_indexOfChar_7 : decode m_JL_indexOfChar.2.1 7 = .ok (.iload 5, 2) := by decide +kernel
theorem d_JL_indexOfChar_9 : decode m_JL_indexOfChar.2.1 9 = .ok (.iload_n 3, 1) := by decide +kernel
theorem d_JL_indexOfChar_10 : decode m_JL_indexOfChar.2.1 10 = .ok (.if_icmp .ge (21), 3) := by decide +kernel
theorem d_JL_indexOfChar_31 : decode m_JL_indexOfChar.2.1 31 = .ok (.iconst (-1), 1) := by decide +kernel
theorem d_JL_indexOfChar_32 : decode m_JL_indexOfChar.2.1 32 = .ok (.ireturn, 1) := by decide +kernel
theorem d_JL_indexOfChar_13 : decode m_JL_indexOfChar.2.1 13 = .ok (.aload_n 0, 1) := by decide +kernel
theorem d_JL_indexOfChar_14 : decode m_JL_indexOfChar.2.1 14 = .ok (.iload 5, 2) := by decide +kernel
theorem d_JL_indexOfChar_16 : decode m_JL_indexOfChar.2.1 16 = .ok (.baload, 1) := by decide +kernel
theorem d_JL_indexOfChar_17 : decode m_JL_indexOfChar.2.1 17 = .ok (.iload 4, 2) := by decide +kernel
theorem d_JL_indexOfChar_19 : decode m_JL_indexOfChar.2.1 19 = .ok (.if_icmp .ne (6), 3) := by decide +kernel
theorem d_JL_indexOfChar_22 : decode m_JL_indexOfChar.2.1 22 = .ok (.iload 5, 2) := by decide +kernel
theorem d_JL_indexOfChar_24 : decode m_JL_indexOfChar.2.1 24 = .ok (.ireturn, 1) := by decide +kernel
theorem d_JL_indexOfChar_25 : decode m_JL_indexOfChar.2.1 25 = .ok (.iinc 5 (1), 3) := by decide +kernel
theorem d_JL_indexOfChar_28 : decode m_JL_indexOfChar.2.1 28 = .ok (.goto (-21), 3) := by decide +kernel
theorem d_JL_indexOf_0 : decode m_JL_indexOf.2.1 0 = .ok (.iload_n 1, 1) := by decide +kernel
theorem d_JL_indexOf_1 : decode m_JL_indexOf.2.1 1 = .ok (.invokestatic 88, 3) := by decide +kernel
theorem d_JL_indexOf_4 : decode m_JL_indexOf.2.1 4 = .ok (.ifCond .ne (5), 3) := by decide +kernel
theorem d_JL_indexOf_7 : decode m_JL_indexOf.2.1 7 = .ok (.iconst (-1), 1) := by decide +kernel
theorem d_JL_indexOf_8 : decode m_JL_indexOf.2.1 8 = .ok (.ireturn, 1) := by decide +kernel
theorem d_JL_indexOf_9 : decode m_JL_indexOf.2.1 9 = .ok (.iload_n 2, 1) := by decide +kernel
theorem d_JL_indexOf_10 : decode m_JL_indexOf.2.1 10 = .ok (.iconst 0, 1) := by decide +kernel
theorem d_JL_indexOf_11 : decode m_JL_indexOf.2.1 11 = .ok (.invokestatic 92, 3) := by decide +kernel
theorem d_JL_indexOf_14 : decode m_JL_indexOf.2.1 14 = .ok (.istore_n 2, 1) := by decide +kernel
theorem d_JL_indexOf_15 : decode m_JL_indexOf.2.1 15 = .ok (.iload_n 3, 1) := by decide +kernel
theorem d_JL_indexOf_16 : decode m_JL_indexOf.2.1 16 = .ok (.aload_n 0, 1) := by decide +kernel
theorem d_JL_indexOf_17 : decode m_JL_indexOf.2.1 17 = .ok (.arraylength, 1) := by decide +kernel
theorem d_JL_indexOf_18 : decode m_JL_indexOf.2.1 18 = .ok (.invokestatic 38, 3) := by decide +kernel
theorem d_JL_indexOf_21 : decode m_JL_indexOf.2.1 21 = .ok (.istore_n 3, 1) := by decide +kernel
theorem d_JL_indexOf_22 : decode m_JL_indexOf.2.1 22 = .ok (.iload_n 2, 1) := by decide +kernel
theorem d_JL_indexOf_23 : decode m_JL_indexOf.2.1 23 = .ok (.iload_n 3, 1) := by decide +kernel
theorem d_JL_indexOf_24 : decode m_JL_indexOf.2.1 24 = .ok (.if_icmp .lt (5), 3) := by decide +kernel
theorem d_JL_indexOf_29 : decode m_JL_indexOf.2.1 29 = .ok (.aload_n 0, 1) := by decide +kernel
theorem d_JL_indexOf_30 : decode m_JL_indexOf.2.1 30 = .ok (.iload_n 1, 1) := by decide +kernel
theorem d_JL_indexOf_31 : decode m_JL_indexOf.2.1 31 = .ok (.iload_n 2, 1) := by decide +kernel
theorem d_JL_indexOf_32 : decode m_JL_indexOf.2.1 32 = .ok (.iload_n 3, 1) := by decide +kernel
theorem d_JL_indexOf_33 : decode m_JL_indexOf.2.1 33 = .ok (.invokestatic 95, 3) := by decide +kernel
theorem d_JL_indexOf_36 : decode m_JL_indexOf.2.1 36 = .ok (.ireturn, 1) := by decide +kernel
theorem d_JL_indexOf_27 : decode m_JL_indexOf.2.1 27 = .ok (.iconst (-1), 1) := by decide +kernel
theorem d_JL_indexOf_28 : decode m_JL_indexOf.2.1 28 = .ok (.ireturn, 1) := by decide +kernel
theorem d_JS_indexOf2_0 : decode m_JS_indexOf2.2.1 0 = .ok (.aload_n 0, 1) := by decide +kernel
theorem d_JS_indexOf2_1 : decode m_JS_indexOf2.2.1 1 = .ok (.invokevirtual 492, 3) := by decide +kernel
theorem d_JS_indexOf2_4 : decode m_JS_indexOf2.2.1 4 = .ok (.ifCond .eq (19), 3) := by decide +kernel
theorem d_JS_indexOf2_23 : decode m_JS_indexOf2.2.1 23 = .ok (.aload_n 0, 1) := by decide +kernel
theorem d_JS_indexOf2_24 : decode m_JS_indexOf2.2.1 24 = .ok (.getfield 9, 3) := by decide +kernel
theorem d_JS_indexOf2_27 : decode m_JS_indexOf2.2.1 27 = .ok (.iload_n 1, 1) := by decide +kernel
theorem d_JS_indexOf2_28 : decode m_JS_indexOf2.2.1 28 = .ok (.iload_n 2, 1) := by decide +kernel
theorem d_JS_indexOf2_29 : decode m_JS_indexOf2.2.1 29 = .ok (.aload_n 0, 1) := by decide +kernel
theorem d_JS_indexOf2_30 : decode m_JS_indexOf2.2.1 30 = .ok (.invokevirtual 505, 3) := by decide +kernel
theorem d_JS_indexOf2_33 : decode m_JS_indexOf2.2.1 33 = .ok (.invokestatic 640, 3) := by decide +kernel
theorem d_JS_indexOf2_7 : decode m_JS_indexOf2.2.1 7 = .ok (.aload_n 0, 1) := by decide +kernel
theorem d_JS_indexOf2_8 : decode m_JS_indexOf2.2.1 8 = .ok (.getfield 9, 3) := by decide +kernel
theorem d_JS_indexOf2_11 : decode m_JS_indexOf2.2.1 11 = .ok (.iload_n 1, 1) := by decide +kernel
theorem d_JS_indexOf2_12 : decode m_JS_indexOf2.2.1 12 = .ok (.iload_n 2, 1) := by decide +kernel
theorem d_JS_indexOf2_13 : decode m_JS_indexOf2.2.1 13 = .ok (.aload_n 0, 1) := by decide +kernel
theorem d_JS_indexOf2_14 : decode m_JS_indexOf2.2.1 14 = .ok (.invokevirtual 505, 3) := by decide +kernel
theorem d_JS_indexOf2_17 : decode m_JS_indexOf2.2.1 17 = .ok (.invokestatic 637, 3) := by decide +kernel
theorem d_JS_indexOf2_20 : decode m_JS_indexOf2.2.1 20 = .ok (.goto (16), 3) := by decide +kernel
theorem d_JS_indexOf2_36 : decode m_JS_indexOf2.2.1 36 = .ok (.ireturn, 1) := by decide +kernel
theorem d_JS_indexOf_0 : decode m_JS_indexOf.2.1 0 = .ok (.aload_n 0, 1) := by decide +kernel
theorem d_JS_indexOf_1 : decode m_JS_indexOf.2.1 1 = .ok (.iload_n 1, 1) := by decide +kernel
theorem d_JS_indexOf_2 : decode m_JS_indexOf.2.1 2 = .ok (.iconst 0, 1) := by decide +kernel
theorem d_JS_indexOf_3 : decode m_JS_indexOf.2.1 3 = .ok (.invokevirtual 633, 3) := by decide +kernel
theorem d_JS_indexOf_6 : decode m_JS_indexOf.2.1 6 = .ok (.ireturn, 1) := by decide +kernel
theorem d_Pa_readRank_0 : decode m_Pa_readRank.2.1 0 = .ok (.iload_n 1, 1) := by decide +kernel
theorem d_Pa_readRank_1 : decode m_Pa_readRank.2.1 1 = .ok (.iconst 5, 1) := by decide +kernel
theorem d_Pa_readRank_2 : decode m_Pa_readRank.2.1 2 = .ok (.if_icmp .lt (9), 3) := by decide +kernel
theorem d_Pa_readRank_11 : decode m_Pa_readRank.2.1 11 = .ok (.aload_n 0, 1) := by decide +kernel
theorem d_Pa_readRank_12 : decode m_Pa_readRank.2.1 12 = .ok (.iload_n 1, 1) := by decide +kernel
theorem d_Pa_readRank_13 : decode m_Pa_readRank.2.1 13 = .ok (.iconst 1, 1) := by decide +kernel
theorem d_Pa_readRank_14 : decode m_Pa_readRank.2.1 14 = .ok (.iadd, 1) := by decide +kernel
theorem d_Pa_readRank_15 : decode m_Pa_readRank.2.1 15 = .ok (.iload_n 2, 1) := by decide +kernel
theorem d_Pa_readRank_16 : decode m_Pa_readRank.2.1 16 = .ok (.invokevirtual 60, 3) := by decide +kernel
theorem d_Pa_readRank_19 : decode m_Pa_readRank.2.1 19 = .ok (.iload_n 1, 1) := by decide +kernel
theorem d_Pa_readRank_20 : decode m_Pa_readRank.2.1 20 = .ok (.iconst 2, 1) := by decide +kernel
theorem d_Pa_readRank_21 : decode m_Pa_readRank.2.1 21 = .ok (.if_icmp .ne (7), 3) := by decide +kernel
theorem d_Pa_readRank_24 : decode m_Pa_readRank.2.1 24 = .ok (.iconst 1, 1) := by decide +kernel
theorem d_Pa_readRank_25 : decode m_Pa_readRank.2.1 25 = .ok (.goto (5), 3) := by decide +kernel
theorem d_Pa_readRank_30 : decode m_Pa_readRank.2.1 30 = .ok (.istore_n 3, 1) := by decide +kernel
theorem d_Pa_readRank_31 : decode m_Pa_readRank.2.1 31 = .ok (.iconst 0, 1) := by decide +kernel
theorem d_Pa_readRank_32 : decode m_Pa_readRank.2.1 32 = .ok (.istore 4, 2) := by decide +kernel
theorem d_Pa_readRank_34 : decode m_Pa_readRank.2.1 34 = .ok (.iload 4, 2) := by decide +kernel
theorem d_Pa_readRank_36 : decode m_Pa_readRank.2.1 36 = .ok (.iload_n 3, 1) := by decide +kernel
theorem d_Pa_readRank_37 : decode m_Pa_readRank.2.1 37 = .ok (.if_icmp .ge (59), 3) := by decide +kernel
theorem d_Pa_readRank_96 : decode m_Pa_readRank.2.1 96 = .ok (.return_, 1) := by decide +kernel
theorem d_Pa_readRank_40 : decode m_Pa_readRank.2.1 40 = .ok (.aload_n 0, 1) := by decide +kernel
theorem d_Pa_readRank_41 : decode m_Pa_readRank.2.1 41 = .ok (.getfield 33, 3) := by decide +kernel
theorem d_Pa_readRank_44 : decode m_Pa_readRank.2.1 44 = .ok (.iconst (-1), 1) := by decide +kernel
theorem d_Pa_readRank_45 : decode m_Pa_readRank.2.1 45 = .ok (.if_icmp .ne (51), 3) := by decide +kernel
theorem d_Pa_readRank_48 : decode m_Pa_readRank.2.1 48 = .ok (.aload_n 0, 1) := by decide +kernel
theorem d_Pa_readRank_49 : decode m_Pa_readRank.2.1 49 = .ok (.invokevirtual 75, 3) := by decide +kernel
theorem d_Pa_readRank_52 : decode m_Pa_readRank.2.1 52 = .ok (.invokestatic 79, 3) := by decide +kernel
theorem d_Pa_readRank_55 : decode m_Pa_readRank.2.1 55 = .ok (.iload_n 1, 1) := by decide +kernel
theorem d_Pa_readRank_56 : decode m_Pa_readRank.2.1 56 = .ok (.if_icmp .ne (40), 3) := by decide +kernel
theorem d_Pa_readRank_59 : decode m_Pa_readRank.2.1 59 = .ok (.aload_n 0, 1) := by decide +kernel
theorem d_Pa_readRank_60 : decode m_Pa_readRank.2.1 60 = .ok (.invokevirtual 75, 3) := by decide +kernel
theorem d_Pa_readRank_63 : decode m_Pa_readRank.2.1 63 = .ok (.istore 5, 2) := by decide +kernel
theorem d_Pa_readRank_65 : decode m_Pa_readRank.2.1 65 = .ok (.aload_n 0, 1) := by decide +kernel
theorem d_Pa_readRank_66 : decode m_Pa_readRank.2.1 66 = .ok (.dup, 1) := by decide +kernel
theorem d_Pa_readRank_67 : decode m_Pa_readRank.2.1 67 = .ok (.getfield 30, 3) := by decide +kernel
theorem d_Pa_readRank_70 : decode m_Pa_readRank.2.1 70 = .ok (.iconst 1, 1) := by decide +kernel
theorem d_Pa_readRank_71 : decode m_Pa_readRank.2.1 71 = .ok (.iadd, 1) := by decide +kernel
theorem d_Pa_readRank_72 : decode m_Pa_readRank.2.1 72 = .ok (.putfield 30, 3) := by decide +kernel
theorem d_Pa_readRank_75 : decode m_Pa_readRank.2.1 75 = .ok (.aload_n 0, 1) := by decide +kernel
theorem d_Pa_readRank_76 : decode m_Pa_readRank.2.1 76 = .ok (.iload_n 1, 1) := by decide +kernel
theorem d_Pa_readRank_77 : decode m_Pa_readRank.2.1 77 = .ok (.iconst 1, 1) := by decide +kernel
theorem d_Pa_readRank_78 : decode m_Pa_readRank.2.1 78 = .ok (.iadd, 1) := by decide +kernel
theorem d_Pa_readRank_79 : decode m_Pa_readRank.2.1 79 = .ok (.iload_n 2, 1) := by decide +kernel
theorem d_Pa_readRank_80 : decode m_Pa_readRank.2.1 80 = .ok (.invokevirtual 60, 3) := by decide +kernel
theorem d_Pa_readRank_83 : decode m_Pa_readRank.2.1 83 = .ok (.aload_n 0, 1) := by decide +kernel
theorem d_Pa_readRank_84 : decode m_Pa_readRank.2.1 84 = .ok (.iload 5, 2) := by decide +kernel
theorem d_Pa_readRank_86 : decode m_Pa_readRank.2.1 86 = .ok (.iconst 0, 1) := by decide +kernel
theorem d_Pa_readRank_87 : decode m_Pa_readRank.2.1 87 = .ok (.invokevirtual 64, 3) := by decide +kernel
theorem d_Pa_readRank_90 : decode m_Pa_readRank.2.1 90 = .ok (.iinc 4 (1), 3) := by decide +kernel
theorem d_Pa_readRank_93 : decode m_Pa_readRank.2.1 93 = .ok (.goto (-59), 3) := by decide +kernel
theorem d_Pa_readRank_28 : decode m_Pa_readRank.2.1 28 = .ok (.bipush (120), 2) := by decide +kernel
theorem d_Pa_readRank_5 : decode m_Pa_readRank.2.1 5 = .ok (.aload_n 0, 1) := by decide +kernel
theorem d_Pa_readRank_6 : decode m_Pa_readRank.2.1 6 = .ok (.iload_n 2, 1) := by decide +kernel
theorem d_Pa_readRank_7 : decode m_Pa_readRank.2.1 7 = .ok (.invokevirtual 71, 3) := by decide +kernel
theorem d_Pa_readRank_10 : decode m_Pa_readRank.2.1 10 = .ok (.return_, 1) := by decide +kernel
theorem d_Pa_readOperand_0 : decode m_Pa_readOperand.2.1 0 = .ok (.aload_n 0, 1) := by decide +kernel
theorem d_Pa_readOperand_1 : decode m_Pa_readOperand.2.1 1 = .ok (.invokevirtual 75, 3) := by decide +kernel
theorem d_Pa_readOperand_4 : decode m_Pa_readOperand.2.1 4 = .ok (.istore_n 2, 1) := by decide +kernel
theorem d_Pa_readOperand_5 : decode m_Pa_readOperand.2.1 5 = .ok (.iload_n 2, 1) := by decide +kernel
theorem d_Pa_readOperand_6 : decode m_Pa_readOperand.2.1 6 = .ok (.ifCond .ge (7), 3) := by decide +kernel
theorem d_Pa_readOperand_13 : decode m_Pa_readOperand.2.1 13 = .ok (.ldc 83, 2) := by decide +kernel
theorem d_Pa_readOperand_15 : decode m_Pa_readOperand.2.1 15 = .ok (.iload_n 2, 1) := by decide +kernel
theorem d_Pa_readOperand_16 : decode m_Pa_readOperand.2.1 16 = .ok (.i2c, 1) := by decide +kernel
theorem d_Pa_readOperand_17 : decode m_Pa_readOperand.2.1 17 = .ok (.invokevirtual 85, 3) := by decide +kernel
theorem d_Pa_readOperand_20 : decode m_Pa_readOperand.2.1 20 = .ok (.istore_n 3, 1) := by decide +kernel
theorem d_Pa_readOperand_21 : decode m_Pa_readOperand.2.1 21 = .ok (.aload_n 0, 1) := by decide +kernel
theorem d_Pa_readOperand_22 : decode m_Pa_readOperand.2.1 22 = .ok (.getfield 33, 3) := by decide +kernel
theorem d_Pa_readOperand_25 : decode m_Pa_readOperand.2.1 25 = .ok (.iconst (-1), 1) := by decide +kernel
theorem d_Pa_readOperand_26 : decode m_Pa_readOperand.2.1 26 = .ok (.if_icmp .eq (4), 3) := by decide +kernel
theorem d_Pa_readOperand_30 : decode m_Pa_readOperand.2.1 30 = .ok (.iload_n 2, 1) := by decide +kernel
theorem d_Pa_readOperand_31 : decode m_Pa_readOperand.2.1 31 = .ok (.invokestatic 90, 3) := by decide +kernel
theorem d_Pa_readOperand_34 : decode m_Pa_readOperand.2.1 34 = .ok (.ifCond .eq (10), 3) := by decide +kernel
theorem d_Pa_readOperand_44 : decode m_Pa_readOperand.2.1 44 = .ok (.iload_n 3, 1) := by decide +kernel
theorem d_Pa_readOperand_45 : decode m_Pa_readOperand.2.1 45 = .ok (.ifCond .lt (41), 3) := by decide +kernel
theorem d_Pa_readOperand_86 : decode m_Pa_readOperand.2.1 86 = .ok (.iload_n 1, 1) := by decide +kernel
theorem d_Pa_readOperand_87 : decode m_Pa_readOperand.2.1 87 = .ok (.bipush (6), 2) := by decide +kernel
theorem d_Pa_readOperand_89 : decode m_Pa_readOperand.2.1 89 = .ok (.if_icmp .ge (51), 3) := by decide +kernel
theorem d_Pa_readOperand_140 : decode m_Pa_readOperand.2.1 140 = .ok (.iload_n 1, 1) := by decide +kernel
theorem d_Pa_readOperand_141 : decode m_Pa_readOperand.2.1 141 = .ok (.bipush (6), 2) := by decide +kernel
theorem d_Pa_readOperand_143 : decode m_Pa_readOperand.2.1 143 = .ok (.if_icmp .ge (43), 3) := by decide +kernel
theorem d_Pa_readOperand_186 : decode m_Pa_readOperand.2.1 186 = .ok (.aload_n 0, 1) := by decide +kernel
theorem d_Pa_readOperand_187 : decode m_Pa_readOperand.2.1 187 = .ok (.invokevirtual 47, 3) := by decide +kernel
theorem d_Pa_readOperand_190 : decode m_Pa_readOperand.2.1 190 = .ok (.return_, 1) := by decide +kernel
theorem d_Pa_readOperand_146 : decode m_Pa_readOperand.2.1 146 = .ok (.iload_n 2, 1) := by decide +kernel
theorem d_Pa_readOperand_147 : decode m_Pa_readOperand.2.1 147 = .ok (.bipush (40), 2) := by decide +kernel
theorem d_Pa_readOperand_149 : decode m_Pa_readOperand.2.1 149 = .ok (.if_icmp .ne (37), 3) := by decide +kernel
theorem d_Pa_readOperand_152 : decode m_Pa_readOperand.2.1 152 = .ok (.aload_n 0, 1) := by decide +kernel
theorem d_Pa_readOperand_153 : decode m_Pa_readOperand.2.1 153 = .ok (.dup, 1) := by decide +kernel
theorem d_Pa_readOperand_154 : decode m_Pa_readOperand.2.1 154 = .ok (.getfield 30, 3) := by decide +kernel
theorem d_Pa_readOperand_157 : decode m_Pa_readOperand.2.1 157 = .ok (.iconst 1, 1) := by decide +kernel
theorem d_Pa_readOperand_158 : decode m_Pa_readOperand.2.1 158 = .ok (.iadd, 1) := by decide +kernel
theorem d_Pa_readOperand_159 : decode m_Pa_readOperand.2.1 159 = .ok (.putfield 30, 3) := by decide +kernel
theorem d_Pa_readOperand_162 : decode m_Pa_readOperand.2.1 162 = .ok (.aload_n 0, 1) := by decide +kernel
theorem d_Pa_readOperand_163 : decode m_Pa_readOperand.2.1 163 = .ok (.iconst 0, 1) := by decide +kernel
theorem d_Pa_readOperand_164 : decode m_Pa_readOperand.2.1 164 = .ok (.iload_n 1, 1) := by decide +kernel
theorem d_Pa_readOperand_165 : decode m_Pa_readOperand.2.1 165 = .ok (.iconst 1, 1) := by decide +kernel
theorem d_Pa_readOperand_166 : decode m_Pa_readOperand.2.1 166 = .ok (.iadd, 1) := by decide +kernel
theorem d_Pa_readOperand_167 : decode m_Pa_readOperand.2.1 167 = .ok (.invokevirtual 60, 3) := by decide +kernel
theorem d_Pa_readOperand_170 : decode m_Pa_readOperand.2.1 170 = .ok (.aload_n 0, 1) := by decide +kernel
theorem d_Pa_readOperand_171 : decode m_Pa_readOperand.2.1 171 = .ok (.bipush (41), 2) := by decide +kernel
theorem d_Pa_readOperand_173 : decode m_Pa_readOperand.2.1 173 = .ok (.invokevirtual 43, 3) := by decide +kernel
theorem d_Pa_readOperand_176 : decode m_Pa_readOperand.2.1 176 = .ok (.ifCond .ne (14), 3) := by decide +kernel
theorem d_Pa_readOperand_179 : decode m_Pa_readOperand.2.1 179 = .ok (.aload_n 0, 1) := by decide +kernel
theorem d_Pa_readOperand_180 : decode m_Pa_readOperand.2.1 180 = .ok (.invokevirtual 47, 3) := by decide +kernel
theorem d_Pa_readOperand_183 : decode m_Pa_readOperand.2.1 183 = .ok (.goto (7), 3) := by decide +kernel
theorem d_Pa_readOperand_92 : decode m_Pa_readOperand.2.1 92 = .ok (.iload_n 2, 1) := by decide +kernel
theorem d_Pa_readOperand_93 : decode m_Pa_readOperand.2.1 93 = .ok (.bipush (33), 2) := by decide +kernel
theorem d_Pa_readOperand_95 : decode m_Pa_readOperand.2.1 95 = .ok (.if_icmp .eq (9), 3) := by decide +kernel
theorem d_Pa_readOperand_104 : decode m_Pa_readOperand.2.1 104 = .ok (.aload_n 0, 1) := by decide +kernel
theorem d_Pa_readOperand_105 : decode m_Pa_readOperand.2.1 105 = .ok (.dup, 1) := by decide +kernel
theorem d_Pa_readOperand_106 : decode m_Pa_readOperand.2.1 106 = .ok (.getfield 30, 3) := by decide +kernel
theorem d_Pa_readOperand_109 : decode m_Pa_readOperand.2.1 109 = .ok (.iconst 1, 1) := by decide +kernel
theorem d_Pa_readOperand_110 : decode m_Pa_readOperand.2.1 110 = .ok (.iadd, 1) := by decide +kernel
theorem d_Pa_readOperand_111 : decode m_Pa_readOperand.2.1 111 = .ok (.putfield 30, 3) := by decide +kernel
theorem d_Pa_readOperand_114 : decode m_Pa_readOperand.2.1 114 = .ok (.aload_n 0, 1) := by decide +kernel
theorem d_Pa_readOperand_115 : decode m_Pa_readOperand.2.1 115 = .ok (.iload_n 1, 1) := by decide +kernel
theorem d_Pa_readOperand_116 : decode m_Pa_readOperand.2.1 116 = .ok (.iconst 1, 1) := by decide +kernel
theorem d_Pa_readOperand_117 : decode m_Pa_readOperand.2.1 117 = .ok (.iadd, 1) := by decide +kernel
theorem d_Pa_readOperand_118 : decode m_Pa_readOperand.2.1 118 = .ok (.invokevirtual 71, 3) := by decide +kernel
theorem d_Pa_readOperand_121 : decode m_Pa_readOperand.2.1 121 = .ok (.aload_n 0, 1) := by decide +kernel
theorem d_Pa_readOperand_122 : decode m_Pa_readOperand.2.1 122 = .ok (.iload_n 2, 1) := by decide +kernel
theorem d_Pa_readOperand_123 : decode m_Pa_readOperand.2.1 123 = .ok (.bipush (33), 2) := by decide +kernel
theorem d_Pa_readOperand_125 : decode m_Pa_readOperand.2.1 125 = .ok (.if_icmp .ne (7), 3) := by decide +kernel
theorem d_Pa_readOperand_128 : decode m_Pa_readOperand.2.1 128 = .ok (.iconst 3, 1) := by decide +kernel
theorem d_Pa_readOperand_129 : decode m_Pa_readOperand.2.1 129 = .ok (.goto (4), 3) := by decide +kernel
theorem d_Pa_readOperand_133 : decode m_Pa_readOperand.2.1 133 = .ok (.iconst 0, 1) := by decide +kernel
theorem d_Pa_readOperand_134 : decode m_Pa_readOperand.2.1 134 = .ok (.invokevirtual 64, 3) := by decide +kernel
theorem d_Pa_readOperand_137 : decode m_Pa_readOperand.2.1 137 = .ok (.goto (53), 3) := by decide +kernel
theorem d_Pa_readOperand_132 : decode m_Pa_readOperand.2.1 132 = .ok (.iconst 4, 1) := by decide +kernel
theorem d_Pa_readOperand_98 : decode m_Pa_readOperand.2.1 98 = .ok (.iload_n 2, 1) := by decide +kernel
theorem d_Pa_readOperand_99 : decode m_Pa_readOperand.2.1 99 = .ok (.bipush (45), 2) := by decide +kernel
theorem d_Pa_readOperand_101 : decode m_Pa_readOperand.2.1 101 = .ok (.if_icmp .ne (39), 3) := by decide +kernel
theorem d_Pa_readOperand_48 : decode m_Pa_readOperand.2.1 48 = .ok (.aload_n 0, 1) := by decide +kernel
theorem d_Pa_readOperand_49 : decode m_Pa_readOperand.2.1 49 = .ok (.dup, 1) := by decide +kernel
theorem d_Pa_readOperand_50 : decode m_Pa_readOperand.2.1 50 = .ok (.getfield 30, 3) := by decide +kernel
theorem d_Pa_readOperand_53 : decode m_Pa_readOperand.2.1 53 = .ok (.iconst 1, 1) := by decide +kernel
theorem d_Pa_readOperand_54 : decode m_Pa_readOperand.2.1 54 = .ok (.iadd, 1) := by decide +kernel
theorem d_Pa_readOperand_55 : decode m_Pa_readOperand.2.1 55 = .ok (.putfield 30, 3) := by decide +kernel
theorem d_Pa_readOperand_58 : decode m_Pa_readOperand.2.1 58 = .ok (.aload_n 0, 1) := by decide +kernel
theorem d_Pa_readOperand_59 : decode m_Pa_readOperand.2.1 59 = .ok (.iconst 2, 1) := by decide +kernel
theorem d_Pa_readOperand_60 : decode m_Pa_readOperand.2.1 60 = .ok (.iload_n 3, 1) := by decide +kernel
theorem d_Pa_readOperand_61 : decode m_Pa_readOperand.2.1 61 = .ok (.invokevirtual 64, 3) := by decide +kernel
theorem d_Pa_readOperand_64 : decode m_Pa_readOperand.2.1 64 = .ok (.aload_n 0, 1) := by decide +kernel
theorem d_Pa_readOperand_65 : decode m_Pa_readOperand.2.1 65 = .ok (.dup, 1) := by decide +kernel
theorem d_Pa_readOperand_66 : decode m_Pa_readOperand.2.1 66 = .ok (.getfield 36, 3) := by decide +kernel
theorem d_Pa_readOperand_69 : decode m_Pa_readOperand.2.1 69 = .ok (.iload_n 3, 1) := by decide +kernel
theorem d_Pa_readOperand_70 : decode m_Pa_readOperand.2.1 70 = .ok (.iconst 4, 1) := by decide +kernel
theorem d_Pa_readOperand_71 : decode m_Pa_readOperand.2.1 71 = .ok (.if_icmp .ne (7), 3) := by decide +kernel
theorem d_Pa_readOperand_74 : decode m_Pa_readOperand.2.1 74 = .ok (.iconst 1, 1) := by decide +kernel
theorem d_Pa_readOperand_75 : decode m_Pa_readOperand.2.1 75 = .ok (.goto (4), 3) := by decide +kernel
theorem d_Pa_readOperand_79 : decode m_Pa_readOperand.2.1 79 = .ok (.ior, 1) := by decide +kernel
theorem d_Pa_readOperand_80 : decode m_Pa_readOperand.2.1 80 = .ok (.putfield 36, 3) := by decide +kernel
theorem d_Pa_readOperand_83 : decode m_Pa_readOperand.2.1 83 = .ok (.goto (107), 3) := by decide +kernel
theorem d_Pa_readOperand_78 : decode m_Pa_readOperand.2.1 78 = .ok (.iconst 0, 1) := by decide +kernel
theorem d_Pa_readOperand_37 : decode m_Pa_readOperand.2.1 37 = .ok (.aload_n 0, 1) := by decide +kernel
theorem d_Pa_readOperand_38 : decode m_Pa_readOperand.2.1 38 = .ok (.invokevirtual 93, 3) := by decide +kernel
theorem d_Pa_readOperand_41 : decode m_Pa_readOperand.2.1 41 = .ok (.goto (149), 3) := by decide +kernel
theorem d_Pa_readOperand_29 : decode m_Pa_readOperand.2.1 29 = .ok (.return_, 1) := by decide +kernel
theorem d_Pa_readOperand_9 : decode m_Pa_readOperand.2.1 9 = .ok (.iconst (-1), 1) := by decide +kernel
theorem d_Pa_readOperand_10 : decode m_Pa_readOperand.2.1 10 = .ok (.goto (10), 3) := by decide +kernel
theorem d_Pa_readLine_0 : decode m_Pa_readLine.2.1 0 = .ok (.aload_n 0, 1) := by decide +kernel
theorem d_Pa_readLine_1 : decode m_Pa_readLine.2.1 1 = .ok (.iconst 0, 1) := by decide +kernel
theorem d_Pa_readLine_2 : decode m_Pa_readLine.2.1 2 = .ok (.iconst 0, 1) := by decide +kernel
theorem d_Pa_readLine_3 : decode m_Pa_readLine.2.1 3 = .ok (.invokevirtual 60, 3) := by decide +kernel
theorem d_Pa_readLine_6 : decode m_Pa_readLine.2.1 6 = .ok (.aload_n 0, 1) := by decide +kernel
theorem d_Pa_readLine_7 : decode m_Pa_readLine.2.1 7 = .ok (.bipush (63), 2) := by decide +kernel
theorem d_Pa_readLine_9 : decode m_Pa_readLine.2.1 9 = .ok (.invokevirtual 43, 3) := by decide +kernel
theorem d_Pa_readLine_12 : decode m_Pa_readLine.2.1 12 = .ok (.ifCond .eq (40), 3) := by decide +kernel
theorem d_Pa_readLine_52 : decode m_Pa_readLine.2.1 52 = .ok (.aload_n 0, 1) := by decide +kernel
theorem d_Pa_readLine_53 : decode m_Pa_readLine.2.1 53 = .ok (.bipush (6), 2) := by decide +kernel
theorem d_Pa_readLine_55 : decode m_Pa_readLine.2.1 55 = .ok (.iconst 0, 1) := by decide +kernel
theorem d_Pa_readLine_56 : decode m_Pa_readLine.2.1 56 = .ok (.invokevirtual 64, 3) := by decide +kernel
theorem d_Pa_readLine_59 : decode m_Pa_readLine.2.1 59 = .ok (.return_, 1) := by decide +kernel
theorem d_Pa_readLine_15 : decode m_Pa_readLine.2.1 15 = .ok (.aload_n 0, 1) := by decide +kernel
theorem d_Pa_readLine_16 : decode m_Pa_readLine.2.1 16 = .ok (.getfield 27, 3) := by decide +kernel
theorem d_Pa_readLine_19 : decode m_Pa_readLine.2.1 19 = .ok (.istore_n 1, 1) := by decide +kernel
theorem d_Pa_readLine_20 : decode m_Pa_readLine.2.1 20 = .ok (.aload_n 0, 1) := by decide +kernel
theorem d_Pa_readLine_21 : decode m_Pa_readLine.2.1 21 = .ok (.iconst 5, 1) := by decide +kernel
theorem d_Pa_readLine_22 : decode m_Pa_readLine.2.1 22 = .ok (.iconst 0, 1) := by decide +kernel
theorem d_Pa_readLine_23 : decode m_Pa_readLine.2.1 23 = .ok (.invokevirtual 64, 3) := by decide +kernel
theorem d_Pa_readLine_26 : decode m_Pa_readLine.2.1 26 = .ok (.aload_n 0, 1) := by decide +kernel
theorem d_Pa_readLine_27 : decode m_Pa_readLine.2.1 27 = .ok (.iconst 0, 1) := by decide +kernel
theorem d_Pa_readLine_28 : decode m_Pa_readLine.2.1 28 = .ok (.iconst 0, 1) := by decide +kernel
theorem d_Pa_readLine_29 : decode m_Pa_readLine.2.1 29 = .ok (.invokevirtual 60, 3) := by decide +kernel
theorem d_Pa_readLine_32 : decode m_Pa_readLine.2.1 32 = .ok (.iload_n 1, 1) := by decide +kernel
theorem d_Pa_readLine_33 : decode m_Pa_readLine.2.1 33 = .ok (.sipush (128), 3) := by decide +kernel
theorem d_Pa_readLine_36 : decode m_Pa_readLine.2.1 36 = .ok (.invokestatic 67, 3) := by decide +kernel
theorem d_Pa_readLine_39 : decode m_Pa_readLine.2.1 39 = .ok (.ifCond .eq (13), 3) := by decide +kernel
theorem d_Pa_readLine_42 : decode m_Pa_readLine.2.1 42 = .ok (.aload_n 0, 1) := by decide +kernel
theorem d_Pa_readLine_43 : decode m_Pa_readLine.2.1 43 = .ok (.getfield 20, 3) := by decide +kernel
theorem d_Pa_readLine_46 : decode m_Pa_readLine.2.1 46 = .ok (.iload_n 1, 1) := by decide +kernel
theorem d_Pa_readLine_47 : decode m_Pa_readLine.2.1 47 = .ok (.aload_n 0, 1) := by decide +kernel
theorem d_Pa_readLine_48 : decode m_Pa_readLine.2.1 48 = .ok (.getfield 27, 3) := by decide +kernel
theorem d_Pa_readLine_51 : decode m_Pa_readLine.2.1 51 = .ok (.iastore, 1) := by decide +kernel
theorem d_Pa_readInto_0 : decode m_Pa_readInto.2.1 0 = .ok (.aload_n 0, 1) := by decide +kernel
theorem d_Pa_readInto_1 : decode m_Pa_readInto.2.1 1 = .ok (.iconst 0, 1) := by decide +kernel
theorem d_Pa_readInto_2 : decode m_Pa_readInto.2.1 2 = .ok (.putfield 27, 3) := by decide +kernel
theorem d_Pa_readInto_5 : decode m_Pa_readInto.2.1 5 = .ok (.aload_n 0, 1) := by decide +kernel
theorem d_Pa_readInto_6 : decode m_Pa_readInto.2.1 6 = .ok (.iconst 0, 1) := by decide +kernel
theorem d_Pa_readInto_7 : decode m_Pa_readInto.2.1 7 = .ok (.putfield 30, 3) := by decide +kernel
theorem d_Pa_readInto_10 : decode m_Pa_readInto.2.1 10 = .ok (.aload_n 0, 1) := by decide +kernel
theorem d_Pa_readInto_11 : decode m_Pa_readInto.2.1 11 = .ok (.iconst (-1), 1) := by decide +kernel
theorem d_Pa_readInto_12 : decode m_Pa_readInto.2.1 12 = .ok (.putfield 33, 3) := by decide +kernel
theorem d_Pa_readInto_15 : decode m_Pa_readInto.2.1 15 = .ok (.aload_n 0, 1) := by decide +kernel
theorem d_Pa_readInto_16 : decode m_Pa_readInto.2.1 16 = .ok (.iconst 0, 1) := by decide +kernel
theorem d_Pa_readInto_17 : decode m_Pa_readInto.2.1 17 = .ok (.putfield 36, 3) := by decide +kernel
theorem d_Pa_readInto_20 : decode m_Pa_readInto.2.1 20 = .ok (.aload_n 0, 1) := by decide +kernel
theorem d_Pa_readInto_21 : decode m_Pa_readInto.2.1 21 = .ok (.invokevirtual 40, 3) := by decide +kernel
theorem d_Pa_readInto_24 : decode m_Pa_readInto.2.1 24 = .ok (.iconst 0, 1) := by decide +kernel
theorem d_Pa_readInto_25 : decode m_Pa_readInto.2.1 25 = .ok (.istore_n 2, 1) := by decide +kernel
theorem d_Pa_readInto_26 : decode m_Pa_readInto.2.1 26 = .ok (.iload_n 2, 1) := by decide +kernel
theorem d_Pa_readInto_27 : decode m_Pa_readInto.2.1 27 = .ok (.bipush (120), 2) := by decide +kernel
theorem d_Pa_readInto_29 : decode m_Pa_readInto.2.1 29 = .ok (.if_icmp .ge (22), 3) := by decide +kernel
theorem d_Pa_readInto_51 : decode m_Pa_readInto.2.1 51 = .ok (.aload_n 0, 1) := by decide +kernel
theorem d_Pa_readInto_52 : decode m_Pa_readInto.2.1 52 = .ok (.getfield 30, 3) := by decide +kernel
theorem d_Pa_readInto_55 : decode m_Pa_readInto.2.1 55 = .ok (.aload_n 0, 1) := by decide +kernel
theorem d_Pa_readInto_56 : decode m_Pa_readInto.2.1 56 = .ok (.getfield 23, 3) := by decide +kernel
theorem d_Pa_readInto_59 : decode m_Pa_readInto.2.1 59 = .ok (.if_icmp .ge (7), 3) := by decide +kernel
theorem d_Pa_readInto_66 : decode m_Pa_readInto.2.1 66 = .ok (.aload_n 0, 1) := by decide +kernel
theorem d_Pa_readInto_67 : decode m_Pa_readInto.2.1 67 = .ok (.iconst 0, 1) := by decide +kernel
theorem d_Pa_readInto_68 : decode m_Pa_readInto.2.1 68 = .ok (.putfield 23, 3) := by decide +kernel
theorem d_Pa_readInto_71 : decode m_Pa_readInto.2.1 71 = .ok (.aload_n 0, 1) := by decide +kernel
theorem d_Pa_readInto_72 : decode m_Pa_readInto.2.1 72 = .ok (.getfield 33, 3) := by decide +kernel
theorem d_Pa_readInto_75 : decode m_Pa_readInto.2.1 75 = .ok (.iconst (-1), 1) := by decide +kernel
theorem d_Pa_readInto_76 : decode m_Pa_readInto.2.1 76 = .ok (.if_icmp .ne (53), 3) := by decide +kernel
theorem d_Pa_readInto_79 : decode m_Pa_readInto.2.1 79 = .ok (.aload_n 0, 1) := by decide +kernel
theorem d_Pa_readInto_80 : decode m_Pa_readInto.2.1 80 = .ok (.getfield 17, 3) := by decide +kernel
theorem d_Pa_readInto_83 : decode m_Pa_readInto.2.1 83 = .ok (.iconst 0, 1) := by decide +kernel
theorem d_Pa_readInto_84 : decode m_Pa_readInto.2.1 84 = .ok (.aload_n 1, 1) := by decide +kernel
theorem d_Pa_readInto_85 : decode m_Pa_readInto.2.1 85 = .ok (.getfield 50, 3) := by decide +kernel
theorem d_Pa_readInto_88 : decode m_Pa_readInto.2.1 88 = .ok (.iconst 0, 1) := by decide +kernel
theorem d_Pa_readInto_89 : decode m_Pa_readInto.2.1 89 = .ok (.aload_n 0, 1) := by decide +kernel
theorem d_Pa_readInto_90 : decode m_Pa_readInto.2.1 90 = .ok (.getfield 27, 3) := by decide +kernel
theorem d_Pa_readInto_93 : decode m_Pa_readInto.2.1 93 = .ok (.invokestatic 51, 3) := by decide +kernel
theorem d_Pa_readInto_96 : decode m_Pa_readInto.2.1 96 = .ok (.aload_n 0, 1) := by decide +kernel
theorem d_Pa_readInto_97 : decode m_Pa_readInto.2.1 97 = .ok (.getfield 20, 3) := by decide +kernel
theorem d_Pa_readInto_100 : decode m_Pa_readInto.2.1 100 = .ok (.iconst 0, 1) := by decide +kernel
theorem d_Pa_readInto_101 : decode m_Pa_readInto.2.1 101 = .ok (.aload_n 1, 1) := by decide +kernel
theorem d_Pa_readInto_102 : decode m_Pa_readInto.2.1 102 = .ok (.getfield 57, 3) := by decide +kernel
theorem d_Pa_readInto_105 : decode m_Pa_readInto.2.1 105 = .ok (.iconst 0, 1) := by decide +kernel
theorem d_Pa_readInto_106 : decode m_Pa_readInto.2.1 106 = .ok (.aload_n 0, 1) := by decide +kernel
theorem d_Pa_readInto_107 : decode m_Pa_readInto.2.1 107 = .ok (.getfield 27, 3) := by decide +kernel
theorem d_Pa_readInto_110 : decode m_Pa_readInto.2.1 110 = .ok (.invokestatic 51, 3) := by decide +kernel
theorem d_Pa_readInto_113 : decode m_Pa_readInto.2.1 113 = .ok (.aload_n 1, 1) := by decide +kernel
theorem d_Pa_readInto_114 : decode m_Pa_readInto.2.1 114 = .ok (.aload_n 0, 1) := by decide +kernel
theorem d_Pa_readInto_115 : decode m_Pa_readInto.2.1 115 = .ok (.getfield 27, 3) := by decide +kernel
theorem d_Pa_readInto_118 : decode m_Pa_readInto.2.1 118 = .ok (.putfield 58, 3) := by decide +kernel
theorem d_Pa_readInto_121 : decode m_Pa_readInto.2.1 121 = .ok (.aload_n 1, 1) := by decide +kernel
theorem d_Pa_readInto_122 : decode m_Pa_readInto.2.1 122 = .ok (.aload_n 0, 1) := by decide +kernel
theorem d_Pa_readInto_123 : decode m_Pa_readInto.2.1 123 = .ok (.getfield 36, 3) := by decide +kernel
theorem d_Pa_readInto_126 : decode m_Pa_readInto.2.1 126 = .ok (.putfield 59, 3) := by decide +kernel
theorem d_Pa_readInto_129 : decode m_Pa_readInto.2.1 129 = .ok (.aload_n 0, 1) := by decide +kernel
theorem d_Pa_readInto_130 : decode m_Pa_readInto.2.1 130 = .ok (.getfield 33, 3) := by decide +kernel
theorem d_Pa_readInto_133 : decode m_Pa_readInto.2.1 133 = .ok (.ireturn, 1) := by decide +kernel
theorem d_Pa_readInto_62 : decode m_Pa_readInto.2.1 62 = .ok (.aload_n 0, 1) := by decide +kernel
theorem d_Pa_readInto_63 : decode m_Pa_readInto.2.1 63 = .ok (.invokevirtual 47, 3) := by decide +kernel
theorem d_Pa_readInto_32 : decode m_Pa_readInto.2.1 32 = .ok (.aload_n 0, 1) := by decide +kernel
theorem d_Pa_readInto_33 : decode m_Pa_readInto.2.1 33 = .ok (.bipush (59), 2) := by decide +kernel
theorem d_Pa_readInto_35 : decode m_Pa_readInto.2.1 35 = .ok (.invokevirtual 43, 3) := by decide +kernel
theorem d_Pa_readInto_38 : decode m_Pa_readInto.2.1 38 = .ok (.ifCond .eq (13), 3) := by decide +kernel
theorem d_Pa_readInto_41 : decode m_Pa_readInto.2.1 41 = .ok (.aload_n 0, 1) := by decide +kernel
theorem d_Pa_readInto_42 : decode m_Pa_readInto.2.1 42 = .ok (.invokevirtual 40, 3) := by decide +kernel
theorem d_Pa_readInto_45 : decode m_Pa_readInto.2.1 45 = .ok (.iinc 2 (1), 3) := by decide +kernel
theorem d_Pa_readInto_48 : decode m_Pa_readInto.2.1 48 = .ok (.goto (-22), 3) := by decide +kernel
theorem d_T_law_0 : decode m_T_law.2.1 0 = .ok (.aload_n 0, 1) := by decide +kernel
theorem d_T_law_1 : decode m_T_law.2.1 1 = .ok (.getfield 33, 3) := by decide +kernel
theorem d_T_law_4 : decode m_T_law.2.1 4 = .ok (.aload_n 0, 1) := by decide +kernel
theorem d_T_law_5 : decode m_T_law.2.1 5 = .ok (.getfield 10, 3) := by decide +kernel
theorem d_T_law_8 : decode m_T_law.2.1 8 = .ok (.getfield 118, 3) := by decide +kernel
theorem d_T_law_11 : decode m_T_law.2.1 11 = .ok (.invokevirtual 122, 3) := by decide +kernel
theorem d_T_law_14 : decode m_T_law.2.1 14 = .ok (.istore_n 1, 1) := by decide +kernel
theorem d_T_law_15 : decode m_T_law.2.1 15 = .ok (.iload_n 1, 1) := by decide +kernel
theorem d_T_law_16 : decode m_T_law.2.1 16 = .ok (.ifCond .ge (7), 3) := by decide +kernel
theorem d_T_law_23 : decode m_T_law.2.1 23 = .ok (.bipush (-100), 2) := by decide +kernel
theorem d_T_law_25 : decode m_T_law.2.1 25 = .ok (.iload_n 1, 1) := by decide +kernel
theorem d_T_law_26 : decode m_T_law.2.1 26 = .ok (.isub, 1) := by decide +kernel
theorem d_T_law_27 : decode m_T_law.2.1 27 = .ok (.ireturn, 1) := by decide +kernel
theorem d_T_law_19 : decode m_T_law.2.1 19 = .ok (.iconst 1, 1) := by decide +kernel
theorem d_T_law_20 : decode m_T_law.2.1 20 = .ok (.goto (7), 3) := by decide +kernel
theorem d_Law_joined_0 : decode m_Law_joined.2.1 0 = .ok (.iload_n 0, 1) := by decide +kernel
theorem d_Law_joined_1 : decode m_Law_joined.2.1 1 = .ok (.lookupswitch (188) #[(37, 176), (38, 105), (42, 160), (43, 152), (45, 156), (47, 164), (60, 119), (61, 130), (62, 141), (124, 91)], 91) := by decide +kernel
theorem d_Law_joined_177 : decode m_Law_joined.2.1 177 = .ok (.iload_n 2, 1) := by decide +kernel
theorem d_Law_joined_178 : decode m_Law_joined.2.1 178 = .ok (.ifCond .ne (7), 3) := by decide +kernel
theorem d_Law_joined_181 : decode m_Law_joined.2.1 181 = .ok (.iconst 0, 1) := by decide +kernel
theorem d_Law_joined_182 : decode m_Law_joined.2.1 182 = .ok (.goto (6), 3) := by decide +kernel
theorem d_Law_joined_188 : decode m_Law_joined.2.1 188 = .ok (.ireturn, 1) := by decide +kernel
theorem d_Law_joined_185 : decode m_Law_joined.2.1 185 = .ok (.iload_n 1, 1) := by decide +kernel
theorem d_Law_joined_186 : decode m_Law_joined.2.1 186 = .ok (.iload_n 2, 1) := by decide +kernel
theorem d_Law_joined_187 : decode m_Law_joined.2.1 187 = .ok (.irem, 1) := by decide +kernel
theorem d_Law_joined_106 : decode m_Law_joined.2.1 106 = .ok (.iload_n 1, 1) := by decide +kernel
theorem d_Law_joined_107 : decode m_Law_joined.2.1 107 = .ok (.ifCond .eq (11), 3) := by decide +kernel
theorem d_Law_joined_118 : decode m_Law_joined.2.1 118 = .ok (.iconst 0, 1) := by decide +kernel
theorem d_Law_joined_119 : decode m_Law_joined.2.1 119 = .ok (.ireturn, 1) := by decide +kernel
theorem d_Law_joined_110 : decode m_Law_joined.2.1 110 = .ok (.iload_n 2, 1) := by decide +kernel
theorem d_Law_joined_111 : decode m_Law_joined.2.1 111 = .ok (.ifCond .eq (7), 3) := by decide +kernel
theorem d_Law_joined_114 : decode m_Law_joined.2.1 114 = .ok (.iconst 1, 1) := by decide +kernel
theorem d_Law_joined_115 : decode m_Law_joined.2.1 115 = .ok (.goto (4), 3) := by decide +kernel
theorem d_Law_joined_161 : decode m_Law_joined.2.1 161 = .ok (.iload_n 1, 1) := by decide +kernel
theorem d_Law_joined_162 : decode m_Law_joined.2.1 162 = .ok (.iload_n 2, 1) := by decide +kernel
theorem d_Law_joined_163 : decode m_Law_joined.2.1 163 = .ok (.imul, 1) := by decide +kernel
theorem d_Law_joined_164 : decode m_Law_joined.2.1 164 = .ok (.ireturn, 1) := by decide +kernel
theorem d_Law_joined_153 : decode m_Law_joined.2.1 153 = .ok (.iload_n 1, 1) := by decide +kernel
theorem d_Law_joined_154 : decode m_Law_joined.2.1 154 = .ok (.iload_n 2, 1) := by decide +kernel
theorem d_Law_joined_155 : decode m_Law_joined.2.1 155 = .ok (.iadd, 1) := by decide +kernel
theorem d_Law_joined_156 : decode m_Law_joined.2.1 156 = .ok (.ireturn, 1) := by decide +kernel
theorem d_Law_joined_157 : decode m_Law_joined.2.1 157 = .ok (.iload_n 1, 1) := by decide +kernel
theorem d_Law_joined_158 : decode m_Law_joined.2.1 158 = .ok (.iload_n 2, 1) := by decide +kernel
theorem d_Law_joined_159 : decode m_Law_joined.2.1 159 = .ok (.isub, 1) := by decide +kernel
theorem d_Law_joined_160 : decode m_Law_joined.2.1 160 = .ok (.ireturn, 1) := by decide +kernel
theorem d_Law_joined_165 : decode m_Law_joined.2.1 165 = .ok (.iload_n 2, 1) := by decide +kernel
theorem d_Law_joined_166 : decode m_Law_joined.2.1 166 = .ok (.ifCond .ne (7), 3) := by decide +kernel
theorem d_Law_joined_169 : decode m_Law_joined.2.1 169 = .ok (.iconst 0, 1) := by decide +kernel
theorem d_Law_joined_170 : decode m_Law_joined.2.1 170 = .ok (.goto (6), 3) := by decide +kernel
theorem d_Law_joined_176 : decode m_Law_joined.2.1 176 = .ok (.ireturn, 1) := by decide +kernel
theorem d_Law_joined_173 : decode m_Law_joined.2.1 173 = .ok (.iload_n 1, 1) := by decide +kernel
theorem d_Law_joined_174 : decode m_Law_joined.2.1 174 = .ok (.iload_n 2, 1) := by decide +kernel
theorem d_Law_joined_175 : decode m_Law_joined.2.1 175 = .ok (.idiv, 1) := by decide +kernel
theorem d_Law_joined_120 : decode m_Law_joined.2.1 120 = .ok (.iload_n 1, 1) := by decide +kernel
theorem d_Law_joined_121 : decode m_Law_joined.2.1 121 = .ok (.iload_n 2, 1) := by decide +kernel
theorem d_Law_joined_122 : decode m_Law_joined.2.1 122 = .ok (.if_icmp .ge (7), 3) := by decide +kernel
theorem d_Law_joined_129 : decode m_Law_joined.2.1 129 = .ok (.iconst 0, 1) := by decide +kernel
theorem d_Law_joined_130 : decode m_Law_joined.2.1 130 = .ok (.ireturn, 1) := by decide +kernel
theorem d_Law_joined_125 : decode m_Law_joined.2.1 125 = .ok (.iconst 1, 1) := by decide +kernel
theorem d_Law_joined_126 : decode m_Law_joined.2.1 126 = .ok (.goto (4), 3) := by decide +kernel
theorem d_Law_joined_131 : decode m_Law_joined.2.1 131 = .ok (.iload_n 1, 1) := by decide +kernel
theorem d_Law_joined_132 : decode m_Law_joined.2.1 132 = .ok (.iload_n 2, 1) := by decide +kernel
theorem d_Law_joined_133 : decode m_Law_joined.2.1 133 = .ok (.if_icmp .ne (7), 3) := by decide +kernel
theorem d_Law_joined_136 : decode m_Law_joined.2.1 136 = .ok (.iconst 1, 1) := by decide +kernel
theorem d_Law_joined_137 : decode m_Law_joined.2.1 137 = .ok (.goto (4), 3) := by decide +kernel
theorem d_Law_joined_141 : decode m_Law_joined.2.1 141 = .ok (.ireturn, 1) := by decide +kernel
theorem d_Law_joined_140 : decode m_Law_joined.2.1 140 = .ok (.iconst 0, 1) := by decide +kernel
theorem d_Law_joined_142 : decode m_Law_joined.2.1 142 = .ok (.iload_n 1, 1) := by decide +kernel
theorem d_Law_joined_143 : decode m_Law_joined.2.1 143 = .ok (.iload_n 2, 1) := by decide +kernel
theorem d_Law_joined_144 : decode m_Law_joined.2.1 144 = .ok (.if_icmp .le (7), 3) := by decide +kernel
theorem d_Law_joined_151 : decode m_Law_joined.2.1 151 = .ok (.iconst 0, 1) := by decide +kernel
theorem d_Law_joined_152 : decode m_Law_joined.2.1 152 = .ok (.ireturn, 1) := by decide +kernel
theorem d_Law_joined_147 : decode m_Law_joined.2.1 147 = .ok (.iconst 1, 1) := by decide +kernel
theorem d_Law_joined_148 : decode m_Law_joined.2.1 148 = .ok (.goto (4), 3) := by decide +kernel
theorem d_Law_joined_92 : decode m_Law_joined.2.1 92 = .ok (.iload_n 1, 1) := by decide +kernel
theorem d_Law_joined_93 : decode m_Law_joined.2.1 93 = .ok (.ifCond .ne (7), 3) := by decide +kernel
theorem d_Law_joined_96 : decode m_Law_joined.2.1 96 = .ok (.iload_n 2, 1) := by decide +kernel
theorem d_Law_joined_97 : decode m_Law_joined.2.1 97 = .ok (.ifCond .eq (7), 3) := by decide +kernel
theorem d_Law_joined_104 : decode m_Law_joined.2.1 104 = .ok (.iconst 0, 1) := by decide +kernel
theorem d_Law_joined_105 : decode m_Law_joined.2.1 105 = .ok (.ireturn, 1) := by decide +kernel
theorem d_Law_joined_100 : decode m_Law_joined.2.1 100 = .ok (.iconst 1, 1) := by decide +kernel
theorem d_Law_joined_101 : decode m_Law_joined.2.1 101 = .ok (.goto (4), 3) := by decide +kernel
theorem d_Law_joined_189 : decode m_Law_joined.2.1 189 = .ok (.iconst 0, 1) := by decide +kernel
theorem d_Law_joined_190 : decode m_Law_joined.2.1 190 = .ok (.ireturn, 1) := by decide +kernel
theorem d_Law_pop_0 : decode m_Law_pop.2.1 0 = .ok (.aload_n 0, 1) := by decide +kernel
theorem d_Law_pop_1 : decode m_Law_pop.2.1 1 = .ok (.getfield 19, 3) := by decide +kernel
theorem d_Law_pop_4 : decode m_Law_pop.2.1 4 = .ok (.ifCond .gt (5), 3) := by decide +kernel
theorem d_Law_pop_9 : decode m_Law_pop.2.1 9 = .ok (.aload_n 0, 1) := by decide +kernel
theorem d_Law_pop_10 : decode m_Law_pop.2.1 10 = .ok (.dup, 1) := by decide +kernel
theorem d_Law_pop_11 : decode m_Law_pop.2.1 11 = .ok (.getfield 19, 3) := by decide +kernel
theorem d_Law_pop_14 : decode m_Law_pop.2.1 14 = .ok (.iconst 1, 1) := by decide +kernel
theorem d_Law_pop_15 : decode m_Law_pop.2.1 15 = .ok (.isub, 1) := by decide +kernel
theorem d_Law_pop_16 : decode m_Law_pop.2.1 16 = .ok (.putfield 19, 3) := by decide +kernel
theorem d_Law_pop_19 : decode m_Law_pop.2.1 19 = .ok (.aload_n 0, 1) := by decide +kernel
theorem d_Law_pop_20 : decode m_Law_pop.2.1 20 = .ok (.getfield 16, 3) := by decide +kernel
theorem d_Law_pop_23 : decode m_Law_pop.2.1 23 = .ok (.aload_n 0, 1) := by decide +kernel
theorem d_Law_pop_24 : decode m_Law_pop.2.1 24 = .ok (.getfield 19, 3) := by decide +kernel
theorem d_Law_pop_27 : decode m_Law_pop.2.1 27 = .ok (.iaload, 1) := by decide +kernel
theorem d_Law_pop_28 : decode m_Law_pop.2.1 28 = .ok (.ireturn, 1) := by decide +kernel
theorem d_Law_pop_7 : decode m_Law_pop.2.1 7 = .ok (.iconst 0, 1) := by decide +kernel
theorem d_Law_pop_8 : decode m_Law_pop.2.1 8 = .ok (.ireturn, 1) := by decide +kernel
theorem d_Law_push_0 : decode m_Law_push.2.1 0 = .ok (.aload_n 0, 1) := by decide +kernel
theorem d_Law_push_1 : decode m_Law_push.2.1 1 = .ok (.getfield 19, 3) := by decide +kernel
theorem d_Law_push_4 : decode m_Law_push.2.1 4 = .ok (.sipush (128), 3) := by decide +kernel
theorem d_Law_push_7 : decode m_Law_push.2.1 7 = .ok (.if_icmp .ge (23), 3) := by decide +kernel
theorem d_Law_push_30 : decode m_Law_push.2.1 30 = .ok (.return_, 1) := by decide +kernel
theorem d_Law_push_10 : decode m_Law_push.2.1 10 = .ok (.aload_n 0, 1) := by decide +kernel
theorem d_Law_push_11 : decode m_Law_push.2.1 11 = .ok (.getfield 16, 3) := by decide +kernel
theorem d_Law_push_14 : decode m_Law_push.2.1 14 = .ok (.aload_n 0, 1) := by decide +kernel
theorem d_Law_push_15 : decode m_Law_push.2.1 15 = .ok (.getfield 19, 3) := by decide +kernel
theorem d_Law_push_18 : decode m_Law_push.2.1 18 = .ok (.iload_n 1, 1) := by decide +kernel
theorem d_Law_push_19 : decode m_Law_push.2.1 19 = .ok (.iastore, 1) := by decide +kernel
theorem d_Law_push_20 : decode m_Law_push.2.1 20 = .ok (.aload_n 0, 1) := by decide +kernel
theorem d_Law_push_21 : decode m_Law_push.2.1 21 = .ok (.dup, 1) := by decide +kernel
theorem d_Law_push_22 : decode m_Law_push.2.1 22 = .ok (.getfield 19, 3) := by decide +kernel
theorem d_Law_push_25 : decode m_Law_push.2.1 25 = .ok (.iconst 1, 1) := by decide +kernel
theorem d_Law_push_26 : decode m_Law_push.2.1 26 = .ok (.iadd, 1) := by decide +kernel
theorem d_Law_push_27 : decode m_Law_push.2.1 27 = .ok (.putfield 19, 3) := by decide +kernel
theorem d_Law_value_0 : decode m_Law_value.2.1 0 = .ok (.aload_n 0, 1) := by decide +kernel
theorem d_Law_value_1 : decode m_Law_value.2.1 1 = .ok (.iconst 0, 1) := by decide +kernel
theorem d_Law_value_2 : decode m_Law_value.2.1 2 = .ok (.putfield 19, 3) := by decide +kernel
theorem d_Law_value_5 : decode m_Law_value.2.1 5 = .ok (.iconst 0, 1) := by decide +kernel
theorem d_Law_value_6 : decode m_Law_value.2.1 6 = .ok (.istore_n 2, 1) := by decide +kernel
theorem d_Law_value_7 : decode m_Law_value.2.1 7 = .ok (.iload_n 2, 1) := by decide +kernel
theorem d_Law_value_8 : decode m_Law_value.2.1 8 = .ok (.aload_n 0, 1) := by decide +kernel
theorem d_Law_value_9 : decode m_Law_value.2.1 9 = .ok (.getfield 23, 3) := by decide +kernel
theorem d_Law_value_12 : decode m_Law_value.2.1 12 = .ok (.if_icmp .ge (181), 3) := by decide +kernel
theorem d_Law_value_193 : decode m_Law_value.2.1 193 = .ok (.iconst 0, 1) := by decide +kernel
theorem d_Law_value_194 : decode m_Law_value.2.1 194 = .ok (.ireturn, 1) := by decide +kernel
theorem d_Law_value_15 : decode m_Law_value.2.1 15 = .ok (.iload_n 2, 1) := by decide +kernel
theorem d_Law_value_16 : decode m_Law_value.2.1 16 = .ok (.sipush (128), 3) := by decide +kernel
theorem d_Law_value_19 : decode m_Law_value.2.1 19 = .ok (.if_icmp .ge (174), 3) := by decide +kernel
theorem d_Law_value_22 : decode m_Law_value.2.1 22 = .ok (.aload_n 0, 1) := by decide +kernel
theorem d_Law_value_23 : decode m_Law_value.2.1 23 = .ok (.getfield 9, 3) := by decide +kernel
theorem d_Law_value_26 : decode m_Law_value.2.1 26 = .ok (.iload_n 2, 1) := by decide +kernel
theorem d_Law_value_27 : decode m_Law_value.2.1 27 = .ok (.iaload, 1) := by decide +kernel
theorem d_Law_value_28 : decode m_Law_value.2.1 28 = .ok (.istore_n 3, 1) := by decide +kernel
theorem d_Law_value_29 : decode m_Law_value.2.1 29 = .ok (.aload_n 0, 1) := by decide +kernel
theorem d_Law_value_30 : decode m_Law_value.2.1 30 = .ok (.getfield 13, 3) := by decide +kernel
theorem d_Law_value_33 : decode m_Law_value.2.1 33 = .ok (.iload_n 2, 1) := by decide +kernel
theorem d_Law_value_34 : decode m_Law_value.2.1 34 = .ok (.iaload, 1) := by decide +kernel
theorem d_Law_value_35 : decode m_Law_value.2.1 35 = .ok (.istore 4, 2) := by decide +kernel
theorem d_Law_value_37 : decode m_Law_value.2.1 37 = .ok (.iload_n 3, 1) := by decide +kernel
theorem d_Law_value_38 : decode m_Law_value.2.1 38 = .ok (.tableswitch (129) (1) (6) #[38, 47, 72, 91, 103, 124], 38) := by decide +kernel
theorem d_Law_value_76 : decode m_Law_value.2.1 76 = .ok (.aload_n 0, 1) := by decide +kernel
theorem d_Law_value_77 : decode m_Law_value.2.1 77 = .ok (.iload 4, 2) := by decide +kernel
theorem d_Law_value_79 : decode m_Law_value.2.1 79 = .ok (.invokevirtual 26, 3) := by decide +kernel
theorem d_Law_value_82 : decode m_Law_value.2.1 82 = .ok (.goto (105), 3) := by decide +kernel
theorem d_Law_value_187 : decode m_Law_value.2.1 187 = .ok (.iinc 2 (1), 3) := by decide +kernel
theorem d_Law_value_190 : decode m_Law_value.2.1 190 = .ok (.goto (-183), 3) := by decide +kernel
theorem d_Law_value_85 : decode m_Law_value.2.1 85 = .ok (.aload_n 0, 1) := by decide +kernel
theorem d_Law_value_86 : decode m_Law_value.2.1 86 = .ok (.iload 4, 2) := by decide +kernel
theorem d_Law_value_88 : decode m_Law_value.2.1 88 = .ok (.aload_n 1, 1) := by decide +kernel
theorem d_Law_value_89 : decode m_Law_value.2.1 89 = .ok (.arraylength, 1) := by decide +kernel
theorem d_Law_value_90 : decode m_Law_value.2.1 90 = .ok (.invokestatic 30, 3) := by decide +kernel
theorem d_Law_value_93 : decode m_Law_value.2.1 93 = .ok (.ifCond .eq (10), 3) := by decide +kernel
theorem d_Law_value_103 : decode m_Law_value.2.1 103 = .ok (.iconst 0, 1) := by decide +kernel
theorem d_Law_value_104 : decode m_Law_value.2.1 104 = .ok (.invokevirtual 26, 3) := by decide +kernel
theorem d_Law_value_107 : decode m_Law_value.2.1 107 = .ok (.goto (80), 3) := by decide +kernel
theorem d_Law_value_96 : decode m_Law_value.2.1 96 = .ok (.aload_n 1, 1) := by decide +kernel
theorem d_Law_value_97 : decode m_Law_value.2.1 97 = .ok (.iload 4, 2) := by decide +kernel
theorem d_Law_value_99 : decode m_Law_value.2.1 99 = .ok (.iaload, 1) := by decide +kernel
theorem d_Law_value_100 : decode m_Law_value.2.1 100 = .ok (.goto (4), 3) := by decide +kernel
theorem d_Law_value_110 : decode m_Law_value.2.1 110 = .ok (.aload_n 0, 1) := by decide +kernel
theorem d_Law_value_111 : decode m_Law_value.2.1 111 = .ok (.aload_n 0, 1) := by decide +kernel
theorem d_Law_value_112 : decode m_Law_value.2.1 112 = .ok (.invokevirtual 36, 3) := by decide +kernel
theorem d_Law_value_115 : decode m_Law_value.2.1 115 = .ok (.ifCond .ne (7), 3) := by decide +kernel
theorem d_Law_value_118 : decode m_Law_value.2.1 118 = .ok (.iconst 1, 1) := by decide +kernel
theorem d_Law_value_119 : decode m_Law_value.2.1 119 = .ok (.goto (4), 3) := by decide +kernel
theorem d_Law_value_123 : decode m_Law_value.2.1 123 = .ok (.invokevirtual 26, 3) := by decide +kernel
theorem d_Law_value_126 : decode m_Law_value.2.1 126 = .ok (.goto (61), 3) := by decide +kernel
theorem d_Law_value_122 : decode m_Law_value.2.1 122 = .ok (.iconst 0, 1) := by decide +kernel
theorem d_Law_value_129 : decode m_Law_value.2.1 129 = .ok (.aload_n 0, 1) := by decide +kernel
theorem d_Law_value_130 : decode m_Law_value.2.1 130 = .ok (.aload_n 0, 1) := by decide +kernel
theorem d_Law_value_131 : decode m_Law_value.2.1 131 = .ok (.invokevirtual 36, 3) := by decide +kernel
theorem d_Law_value_134 : decode m_Law_value.2.1 134 = .ok (.ineg, 1) := by decide +kernel
theorem d_Law_value_135 : decode m_Law_value.2.1 135 = .ok (.invokevirtual 26, 3) := by decide +kernel
theorem d_Law_value_138 : decode m_Law_value.2.1 138 = .ok (.goto (49), 3) := by decide +kernel
theorem d_Law_value_141 : decode m_Law_value.2.1 141 = .ok (.aload_n 0, 1) := by decide +kernel
theorem d_Law_value_142 : decode m_Law_value.2.1 142 = .ok (.invokevirtual 36, 3) := by decide +kernel
theorem d_Law_value_145 : decode m_Law_value.2.1 145 = .ok (.ifCond .ne (12), 3) := by decide +kernel
theorem d_Law_value_148 : decode m_Law_value.2.1 148 = .ok (.iload_n 2, 1) := by decide +kernel
theorem d_Law_value_149 : decode m_Law_value.2.1 149 = .ok (.iload 4, 2) := by decide +kernel
theorem d_Law_value_151 : decode m_Law_value.2.1 151 = .ok (.invokestatic 40, 3) := by decide +kernel
theorem d_Law_value_154 : decode m_Law_value.2.1 154 = .ok (.goto (4), 3) := by decide +kernel
theorem d_Law_value_158 : decode m_Law_value.2.1 158 = .ok (.istore_n 2, 1) := by decide +kernel
theorem d_Law_value_159 : decode m_Law_value.2.1 159 = .ok (.goto (28), 3) := by decide +kernel
theorem d_Law_value_157 : decode m_Law_value.2.1 157 = .ok (.iload_n 2, 1) := by decide +kernel
theorem d_Law_value_162 : decode m_Law_value.2.1 162 = .ok (.aload_n 0, 1) := by decide +kernel
theorem d_Law_value_163 : decode m_Law_value.2.1 163 = .ok (.invokevirtual 36, 3) := by decide +kernel
theorem d_Law_value_166 : decode m_Law_value.2.1 166 = .ok (.ireturn, 1) := by decide +kernel
theorem d_Law_value_167 : decode m_Law_value.2.1 167 = .ok (.aload_n 0, 1) := by decide +kernel
theorem d_Law_value_168 : decode m_Law_value.2.1 168 = .ok (.invokevirtual 36, 3) := by decide +kernel
theorem d_Law_value_171 : decode m_Law_value.2.1 171 = .ok (.istore 5, 2) := by decide +kernel
theorem d_Law_value_173 : decode m_Law_value.2.1 173 = .ok (.aload_n 0, 1) := by decide +kernel
theorem d_Law_value_174 : decode m_Law_value.2.1 174 = .ok (.iload_n 3, 1) := by decide +kernel
theorem d_Law_value_175 : decode m_Law_value.2.1 175 = .ok (.aload_n 0, 1) := by decide +kernel
theorem d_Law_value_176 : decode m_Law_value.2.1 176 = .ok (.invokevirtual 36, 3) := by decide +kernel
theorem d_Law_value_179 : decode m_Law_value.2.1 179 = .ok (.iload 5, 2) := by decide +kernel
theorem d_Law_value_181 : decode m_Law_value.2.1 181 = .ok (.invokestatic 46, 3) := by decide +kernel
theorem d_Law_value_184 : decode m_Law_value.2.1 184 = .ok (.invokevirtual 26, 3) := by decide +kernel
theorem d_Isl_speechAs_0 : decode m_Isl_speechAs.2.1 0 = .ok (.iload_n 1, 1) := by decide +kernel
theorem d_Isl_speechAs_1 : decode m_Isl_speechAs.2.1 1 = .ok (.aload_n 0, 1) := by decide +kernel
theorem d_Isl_speechAs_2 : decode m_Isl_speechAs.2.1 2 = .ok (.getfield 34, 3) := by decide +kernel
theorem d_Isl_speechAs_5 : decode m_Isl_speechAs.2.1 5 = .ok (.invokestatic 55, 3) := by decide +kernel
theorem d_Isl_speechAs_8 : decode m_Isl_speechAs.2.1 8 = .ok (.ifCond .ne (5), 3) := by decide +kernel
theorem d_Isl_speechAs_11 : decode m_Isl_speechAs.2.1 11 = .ok (.iconst 0, 1) := by decide +kernel
theorem d_Isl_speechAs_12 : decode m_Isl_speechAs.2.1 12 = .ok (.ireturn, 1) := by decide +kernel
theorem d_Isl_speechAs_13 : decode m_Isl_speechAs.2.1 13 = .ok (.aload_n 0, 1) := by decide +kernel
theorem d_Isl_speechAs_14 : decode m_Isl_speechAs.2.1 14 = .ok (.getfield 21, 3) := by decide +kernel
theorem d_Isl_speechAs_17 : decode m_Isl_speechAs.2.1 17 = .ok (.iload_n 1, 1) := by decide +kernel
theorem d_Isl_speechAs_18 : decode m_Isl_speechAs.2.1 18 = .ok (.iaload, 1) := by decide +kernel
theorem d_Isl_speechAs_19 : decode m_Isl_speechAs.2.1 19 = .ok (.ifCond .lt (10), 3) := by decide +kernel
theorem d_Isl_speechAs_29 : decode m_Isl_speechAs.2.1 29 = .ok (.aload_n 0, 1) := by decide +kernel
theorem d_Isl_speechAs_30 : decode m_Isl_speechAs.2.1 30 = .ok (.getfield 27, 3) := by decide +kernel
theorem d_Isl_speechAs_33 : decode m_Isl_speechAs.2.1 33 = .ok (.getfield 78, 3) := by decide +kernel
theorem d_Isl_speechAs_36 : decode m_Isl_speechAs.2.1 36 = .ok (.ifCond .ne (23), 3) := by decide +kernel
theorem d_Isl_speechAs_39 : decode m_Isl_speechAs.2.1 39 = .ok (.iload_n 3, 1) := by decide +kernel
theorem d_Isl_speechAs_40 : decode m_Isl_speechAs.2.1 40 = .ok (.bipush (6), 2) := by decide +kernel
theorem d_Isl_speechAs_42 : decode m_Isl_speechAs.2.1 42 = .ok (.if_icmp .lt (8), 3) := by decide +kernel
theorem d_Isl_speechAs_50 : decode m_Isl_speechAs.2.1 50 = .ok (.iconst 5, 1) := by decide +kernel
theorem d_Isl_speechAs_51 : decode m_Isl_speechAs.2.1 51 = .ok (.iload 4, 2) := by decide +kernel
theorem d_Isl_speechAs_53 : decode m_Isl_speechAs.2.1 53 = .ok (.iconst 1, 1) := by decide +kernel
theorem d_Isl_speechAs_54 : decode m_Isl_speechAs.2.1 54 = .ok (.iadd, 1) := by decide +kernel
theorem d_Isl_speechAs_55 : decode m_Isl_speechAs.2.1 55 = .ok (.invokestatic 81, 3) := by decide +kernel
theorem d_Isl_speechAs_58 : decode m_Isl_speechAs.2.1 58 = .ok (.ireturn, 1) := by decide +kernel
theorem d_Isl_speechAs_45 : decode m_Isl_speechAs.2.1 45 = .ok (.iload 4, 2) := by decide +kernel
theorem d_Isl_speechAs_47 : decode m_Isl_speechAs.2.1 47 = .ok (.goto (11), 3) := by decide +kernel
theorem d_Isl_speechAs_59 : decode m_Isl_speechAs.2.1 59 = .ok (.aload_n 0, 1) := by decide +kernel
theorem d_Isl_speechAs_60 : decode m_Isl_speechAs.2.1 60 = .ok (.getfield 31, 3) := by decide +kernel
theorem d_Isl_speechAs_63 : decode m_Isl_speechAs.2.1 63 = .ok (.iconst 0, 1) := by decide +kernel
theorem d_Isl_speechAs_64 : decode m_Isl_speechAs.2.1 64 = .ok (.iload 4, 2) := by decide +kernel
theorem d_Isl_speechAs_66 : decode m_Isl_speechAs.2.1 66 = .ok (.iastore, 1) := by decide +kernel
theorem d_Isl_speechAs_67 : decode m_Isl_speechAs.2.1 67 = .ok (.aload_n 0, 1) := by decide +kernel
theorem d_Isl_speechAs_68 : decode m_Isl_speechAs.2.1 68 = .ok (.getfield 31, 3) := by decide +kernel
theorem d_Isl_speechAs_71 : decode m_Isl_speechAs.2.1 71 = .ok (.iconst 1, 1) := by decide +kernel
theorem d_Isl_speechAs_72 : decode m_Isl_speechAs.2.1 72 = .ok (.iload_n 3, 1) := by decide +kernel
theorem d_Isl_speechAs_73 : decode m_Isl_speechAs.2.1 73 = .ok (.iastore, 1) := by decide +kernel
theorem d_Isl_speechAs_74 : decode m_Isl_speechAs.2.1 74 = .ok (.aload_n 0, 1) := by decide +kernel
theorem d_Isl_speechAs_75 : decode m_Isl_speechAs.2.1 75 = .ok (.getfield 31, 3) := by decide +kernel
theorem d_Isl_speechAs_78 : decode m_Isl_speechAs.2.1 78 = .ok (.iconst 2, 1) := by decide +kernel
theorem d_Isl_speechAs_79 : decode m_Isl_speechAs.2.1 79 = .ok (.iload_n 2, 1) := by decide +kernel
theorem d_Isl_speechAs_80 : decode m_Isl_speechAs.2.1 80 = .ok (.iastore, 1) := by decide +kernel
theorem d_Isl_speechAs_81 : decode m_Isl_speechAs.2.1 81 = .ok (.aload_n 0, 1) := by decide +kernel
theorem d_Isl_speechAs_82 : decode m_Isl_speechAs.2.1 82 = .ok (.getfield 31, 3) := by decide +kernel
theorem d_Isl_speechAs_85 : decode m_Isl_speechAs.2.1 85 = .ok (.iconst 3, 1) := by decide +kernel
theorem d_Isl_speechAs_86 : decode m_Isl_speechAs.2.1 86 = .ok (.aload_n 0, 1) := by decide +kernel
theorem d_Isl_speechAs_87 : decode m_Isl_speechAs.2.1 87 = .ok (.getfield 18, 3) := by decide +kernel
theorem d_Isl_speechAs_90 : decode m_Isl_speechAs.2.1 90 = .ok (.iload_n 1, 1) := by decide +kernel
theorem d_Isl_speechAs_91 : decode m_Isl_speechAs.2.1 91 = .ok (.iaload, 1) := by decide +kernel
theorem d_Isl_speechAs_92 : decode m_Isl_speechAs.2.1 92 = .ok (.iastore, 1) := by decide +kernel
theorem d_Isl_speechAs_93 : decode m_Isl_speechAs.2.1 93 = .ok (.aload_n 0, 1) := by decide +kernel
theorem d_Isl_speechAs_94 : decode m_Isl_speechAs.2.1 94 = .ok (.getfield 31, 3) := by decide +kernel
theorem d_Isl_speechAs_97 : decode m_Isl_speechAs.2.1 97 = .ok (.iconst 4, 1) := by decide +kernel
theorem d_Isl_speechAs_98 : decode m_Isl_speechAs.2.1 98 = .ok (.iload 5, 2) := by decide +kernel
theorem d_Isl_speechAs_100 : decode m_Isl_speechAs.2.1 100 = .ok (.iastore, 1) := by decide +kernel
theorem d_Isl_speechAs_101 : decode m_Isl_speechAs.2.1 101 = .ok (.aload_n 0, 1) := by decide +kernel
theorem d_Isl_speechAs_102 : decode m_Isl_speechAs.2.1 102 = .ok (.getfield 31, 3) := by decide +kernel
theorem d_Isl_speechAs_105 : decode m_Isl_speechAs.2.1 105 = .ok (.iconst 5, 1) := by decide +kernel
theorem d_Isl_speechAs_106 : decode m_Isl_speechAs.2.1 106 = .ok (.iload_n 1, 1) := by decide +kernel
theorem d_Isl_speechAs_107 : decode m_Isl_speechAs.2.1 107 = .ok (.iastore, 1) := by decide +kernel
theorem d_Isl_speechAs_108 : decode m_Isl_speechAs.2.1 108 = .ok (.iconst 0, 1) := by decide +kernel
theorem d_Isl_speechAs_109 : decode m_Isl_speechAs.2.1 109 = .ok (.iconst 5, 1) := by decide +kernel
theorem d_Isl_speechAs_110 : decode m_Isl_speechAs.2.1 110 = .ok (.aload_n 0, 1) := by decide +kernel
theorem d_Isl_speechAs_111 : decode m_Isl_speechAs.2.1 111 = .ok (.getfield 27, 3) := by decide +kernel
theorem d_Isl_speechAs_114 : decode m_Isl_speechAs.2.1 114 = .ok (.aload_n 0, 1) := by decide +kernel
theorem d_Isl_speechAs_115 : decode m_Isl_speechAs.2.1 115 = .ok (.getfield 31, 3) := by decide +kernel
theorem d_Isl_speechAs_118 : decode m_Isl_speechAs.2.1 118 = .ok (.invokevirtual 87, 3) := by decide +kernel
theorem d_Isl_speechAs_121 : decode m_Isl_speechAs.2.1 121 = .ok (.invokestatic 81, 3) := by decide +kernel
theorem d_Isl_speechAs_124 : decode m_Isl_speechAs.2.1 124 = .ok (.invokestatic 91, 3) := by decide +kernel
theorem d_Isl_speechAs_127 : decode m_Isl_speechAs.2.1 127 = .ok (.ireturn, 1) := by decide +kernel
theorem d_Isl_speechAs_22 : decode m_Isl_speechAs.2.1 22 = .ok (.aload_n 0, 1) := by decide +kernel
theorem d_Isl_speechAs_23 : decode m_Isl_speechAs.2.1 23 = .ok (.getfield 21, 3) := by decide +kernel
theorem d_Isl_speechAs_26 : decode m_Isl_speechAs.2.1 26 = .ok (.iload_n 1, 1) := by decide +kernel
theorem d_Isl_speechAs_27 : decode m_Isl_speechAs.2.1 27 = .ok (.iaload, 1) := by decide +kernel
theorem d_Isl_speechAs_28 : decode m_Isl_speechAs.2.1 28 = .ok (.ireturn, 1) := by decide +kernel
theorem d_Isl_speechNow_0 : decode m_Isl_speechNow.2.1 0 = .ok (.iload_n 1, 1) := by decide +kernel
theorem d_Isl_speechNow_1 : decode m_Isl_speechNow.2.1 1 = .ok (.aload_n 0, 1) := by decide +kernel
theorem d_Isl_speechNow_2 : decode m_Isl_speechNow.2.1 2 = .ok (.getfield 34, 3) := by decide +kernel
theorem d_Isl_speechNow_5 : decode m_Isl_speechNow.2.1 5 = .ok (.invokestatic 55, 3) := by decide +kernel
theorem d_Isl_speechNow_8 : decode m_Isl_speechNow.2.1 8 = .ok (.ifCond .eq (31), 3) := by decide +kernel
theorem d_Isl_speechNow_39 : decode m_Isl_speechNow.2.1 39 = .ok (.iconst 0, 1) := by decide +kernel
theorem d_Isl_speechNow_40 : decode m_Isl_speechNow.2.1 40 = .ok (.ireturn, 1) := by decide +kernel
theorem d_Isl_speechNow_11 : decode m_Isl_speechNow.2.1 11 = .ok (.aload_n 0, 1) := by decide +kernel
theorem d_Isl_speechNow_12 : decode m_Isl_speechNow.2.1 12 = .ok (.iload_n 1, 1) := by decide +kernel
theorem d_Isl_speechNow_13 : decode m_Isl_speechNow.2.1 13 = .ok (.aload_n 0, 1) := by decide +kernel
theorem d_Isl_speechNow_14 : decode m_Isl_speechNow.2.1 14 = .ok (.getfield 9, 3) := by decide +kernel
theorem d_Isl_speechNow_17 : decode m_Isl_speechNow.2.1 17 = .ok (.iload_n 1, 1) := by decide +kernel
theorem d_Isl_speechNow_18 : decode m_Isl_speechNow.2.1 18 = .ok (.iaload, 1) := by decide +kernel
theorem d_Isl_speechNow_19 : decode m_Isl_speechNow.2.1 19 = .ok (.aload_n 0, 1) := by decide +kernel
theorem d_Isl_speechNow_20 : decode m_Isl_speechNow.2.1 20 = .ok (.getfield 15, 3) := by decide +kernel
theorem d_Isl_speechNow_23 : decode m_Isl_speechNow.2.1 23 = .ok (.iload_n 1, 1) := by decide +kernel
theorem d_Isl_speechNow_24 : decode m_Isl_speechNow.2.1 24 = .ok (.iaload, 1) := by decide +kernel
theorem d_Isl_speechNow_25 : decode m_Isl_speechNow.2.1 25 = .ok (.aload_n 0, 1) := by decide +kernel
theorem d_Isl_speechNow_26 : decode m_Isl_speechNow.2.1 26 = .ok (.getfield 65, 3) := by decide +kernel
theorem d_Isl_speechNow_29 : decode m_Isl_speechNow.2.1 29 = .ok (.aload_n 0, 1) := by decide +kernel
theorem d_Isl_speechNow_30 : decode m_Isl_speechNow.2.1 30 = .ok (.getfield 71, 3) := by decide +kernel
theorem d_Isl_speechNow_33 : decode m_Isl_speechNow.2.1 33 = .ok (.invokevirtual 74, 3) := by decide +kernel
theorem d_Isl_speechNow_36 : decode m_Isl_speechNow.2.1 36 = .ok (.goto (4), 3) := by decide +kernel
theorem d_T_says_0 : decode m_T_says.2.1 0 = .ok (.iload_n 1, 1) := by decide +kernel
theorem d_T_says_1 : decode m_T_says.2.1 1 = .ok (.aload_n 0, 1) := by decide +kernel
theorem d_T_says_2 : decode m_T_says.2.1 2 = .ok (.getfield 10, 3) := by decide +kernel
theorem d_T_says_5 : decode m_T_says.2.1 5 = .ok (.getfield 126, 3) := by decide +kernel
theorem d_T_says_8 : decode m_T_says.2.1 8 = .ok (.invokestatic 72, 3) := by decide +kernel
theorem d_T_says_11 : decode m_T_says.2.1 11 = .ok (.ifCond .eq (14), 3) := by decide +kernel
theorem d_T_says_25 : decode m_T_says.2.1 25 = .ok (.iconst (-1), 1) := by decide +kernel
theorem d_T_says_26 : decode m_T_says.2.1 26 = .ok (.ireturn, 1) := by decide +kernel
theorem d_T_says_14 : decode m_T_says.2.1 14 = .ok (.aload_n 0, 1) := by decide +kernel
theorem d_T_says_15 : decode m_T_says.2.1 15 = .ok (.getfield 10, 3) := by decide +kernel
theorem d_T_says_18 : decode m_T_says.2.1 18 = .ok (.iload_n 1, 1) := by decide +kernel
theorem d_T_says_19 : decode m_T_says.2.1 19 = .ok (.invokevirtual 129, 3) := by decide +kernel
theorem d_T_says_22 : decode m_T_says.2.1 22 = .ok (.goto (4), 3) := by decide +kernel
theorem d_Cr_agree_0 : decode m_Cr_agree.2.1 0 = .ok (.aload_n 0, 1) := by decide +kernel
theorem d_Cr_agree_1 : decode m_Cr_agree.2.1 1 = .ok (.getfield 15, 3) := by decide +kernel
theorem d_Cr_agree_4 : decode m_Cr_agree.2.1 4 = .ok (.iload_n 1, 1) := by decide +kernel
theorem d_Cr_agree_5 : decode m_Cr_agree.2.1 5 = .ok (.iaload, 1) := by decide +kernel
theorem d_Cr_agree_6 : decode m_Cr_agree.2.1 6 = .ok (.aload_n 0, 1) := by decide +kernel
theorem d_Cr_agree_7 : decode m_Cr_agree.2.1 7 = .ok (.getfield 15, 3) := by decide +kernel
theorem d_Cr_agree_10 : decode m_Cr_agree.2.1 10 = .ok (.iload_n 2, 1) := by decide +kernel
theorem d_Cr_agree_11 : decode m_Cr_agree.2.1 11 = .ok (.iaload, 1) := by decide +kernel
theorem d_Cr_agree_12 : decode m_Cr_agree.2.1 12 = .ok (.if_icmp .eq (30), 3) := by decide +kernel
theorem d_Cr_agree_42 : decode m_Cr_agree.2.1 42 = .ok (.iconst 0, 1) := by decide +kernel
theorem d_Cr_agree_43 : decode m_Cr_agree.2.1 43 = .ok (.ireturn, 1) := by decide +kernel
theorem d_Cr_agree_15 : decode m_Cr_agree.2.1 15 = .ok (.aload_n 0, 1) := by decide +kernel
theorem d_Cr_agree_16 : decode m_Cr_agree.2.1 16 = .ok (.getfield 9, 3) := by decide +kernel
theorem d_Cr_agree_19 : decode m_Cr_agree.2.1 19 = .ok (.iload_n 1, 1) := by decide +kernel
theorem d_Cr_agree_20 : decode m_Cr_agree.2.1 20 = .ok (.iaload, 1) := by decide +kernel
theorem d_Cr_agree_21 : decode m_Cr_agree.2.1 21 = .ok (.aload_n 0, 1) := by decide +kernel
theorem d_Cr_agree_22 : decode m_Cr_agree.2.1 22 = .ok (.getfield 9, 3) := by decide +kernel
theorem d_Cr_agree_25 : decode m_Cr_agree.2.1 25 = .ok (.iload_n 2, 1) := by decide +kernel
theorem d_Cr_agree_26 : decode m_Cr_agree.2.1 26 = .ok (.iaload, 1) := by decide +kernel
theorem d_Cr_agree_27 : decode m_Cr_agree.2.1 27 = .ok (.isub, 1) := by decide +kernel
theorem d_Cr_agree_28 : decode m_Cr_agree.2.1 28 = .ok (.invokestatic 93, 3) := by decide +kernel
theorem d_Cr_agree_31 : decode m_Cr_agree.2.1 31 = .ok (.aload_n 0, 1) := by decide +kernel
theorem d_Cr_agree_32 : decode m_Cr_agree.2.1 32 = .ok (.getfield 56, 3) := by decide +kernel
theorem d_Cr_agree_35 : decode m_Cr_agree.2.1 35 = .ok (.if_icmp .gt (7), 3) := by decide +kernel
theorem d_Cr_agree_38 : decode m_Cr_agree.2.1 38 = .ok (.iconst 1, 1) := by decide +kernel
theorem d_Cr_agree_39 : decode m_Cr_agree.2.1 39 = .ok (.goto (4), 3) := by decide +kernel
theorem d_Cr_agreeing_0 : decode m_Cr_agreeing.2.1 0 = .ok (.iconst 0, 1) := by decide +kernel
theorem d_Cr_agreeing_1 : decode m_Cr_agreeing.2.1 1 = .ok (.istore_n 1, 1) := by decide +kernel
theorem d_Cr_agreeing_2 : decode m_Cr_agreeing.2.1 2 = .ok (.iconst 0, 1) := by decide +kernel
theorem d_Cr_agreeing_3 : decode m_Cr_agreeing.2.1 3 = .ok (.istore_n 2, 1) := by decide +kernel
theorem d_Cr_agreeing_4 : decode m_Cr_agreeing.2.1 4 = .ok (.iload_n 2, 1) := by decide +kernel
theorem d_Cr_agreeing_5 : decode m_Cr_agreeing.2.1 5 = .ok (.aload_n 0, 1) := by decide +kernel
theorem d_Cr_agreeing_6 : decode m_Cr_agreeing.2.1 6 = .ok (.getfield 52, 3) := by decide +kernel
theorem d_Cr_agreeing_9 : decode m_Cr_agreeing.2.1 9 = .ok (.if_icmp .ge (44), 3) := by decide +kernel
theorem d_Cr_agreeing_53 : decode m_Cr_agreeing.2.1 53 = .ok (.iload_n 1, 1) := by decide +kernel
theorem d_Cr_agreeing_54 : decode m_Cr_agreeing.2.1 54 = .ok (.ireturn, 1) := by decide +kernel
theorem d_Cr_agreeing_12 : decode m_Cr_agreeing.2.1 12 = .ok (.iload_n 2, 1) := by decide +kernel
theorem d_Cr_agreeing_13 : decode m_Cr_agreeing.2.1 13 = .ok (.iconst 1, 1) := by decide +kernel
theorem d_Cr_agreeing_14 : decode m_Cr_agreeing.2.1 14 = .ok (.iadd, 1) := by decide +kernel
theorem d_Cr_agreeing_15 : decode m_Cr_agreeing.2.1 15 = .ok (.istore_n 3, 1) := by decide +kernel
theorem d_Cr_agreeing_16 : decode m_Cr_agreeing.2.1 16 = .ok (.iload_n 3, 1) := by decide +kernel
theorem d_Cr_agreeing_17 : decode m_Cr_agreeing.2.1 17 = .ok (.aload_n 0, 1) := by decide +kernel
theorem d_Cr_agreeing_18 : decode m_Cr_agreeing.2.1 18 = .ok (.getfield 52, 3) := by decide +kernel
theorem d_Cr_agreeing_21 : decode m_Cr_agreeing.2.1 21 = .ok (.if_icmp .ge (26), 3) := by decide +kernel
theorem d_Cr_agreeing_47 : decode m_Cr_agreeing.2.1 47 = .ok (.iinc 2 (1), 3) := by decide +kernel
theorem d_Cr_agreeing_50 : decode m_Cr_agreeing.2.1 50 = .ok (.goto (-46), 3) := by decide +kernel
theorem d_Cr_agreeing_24 : decode m_Cr_agreeing.2.1 24 = .ok (.iload_n 1, 1) := by decide +kernel
theorem d_Cr_agreeing_25 : decode m_Cr_agreeing.2.1 25 = .ok (.aload_n 0, 1) := by decide +kernel
theorem d_Cr_agreeing_26 : decode m_Cr_agreeing.2.1 26 = .ok (.iload_n 2, 1) := by decide +kernel
theorem d_Cr_agreeing_27 : decode m_Cr_agreeing.2.1 27 = .ok (.iload_n 3, 1) := by decide +kernel
theorem d_Cr_agreeing_28 : decode m_Cr_agreeing.2.1 28 = .ok (.invokevirtual 100, 3) := by decide +kernel
theorem d_Cr_agreeing_31 : decode m_Cr_agreeing.2.1 31 = .ok (.ifCond .eq (7), 3) := by decide +kernel
theorem d_Cr_agreeing_38 : decode m_Cr_agreeing.2.1 38 = .ok (.iconst 0, 1) := by decide +kernel
theorem d_Cr_agreeing_39 : decode m_Cr_agreeing.2.1 39 = .ok (.iadd, 1) := by decide +kernel
theorem d_Cr_agreeing_40 : decode m_Cr_agreeing.2.1 40 = .ok (.istore_n 1, 1) := by decide +kernel
theorem d_Cr_agreeing_41 : decode m_Cr_agreeing.2.1 41 = .ok (.iinc 3 (1), 3) := by decide +kernel
theorem d_Cr_agreeing_44 : decode m_Cr_agreeing.2.1 44 = .ok (.goto (-28), 3) := by decide +kernel
theorem d_Cr_agreeing_34 : decode m_Cr_agreeing.2.1 34 = .ok (.iconst 1, 1) := by decide +kernel
theorem d_Cr_agreeing_35 : decode m_Cr_agreeing.2.1 35 = .ok (.goto (4), 3) := by decide +kernel
theorem d_Cr_gather_0 : decode m_Cr_gather.2.1 0 = .ok (.aload_n 0, 1) := by decide +kernel
theorem d_Cr_gather_1 : decode m_Cr_gather.2.1 1 = .ok (.aload_n 1, 1) := by decide +kernel
theorem d_Cr_gather_2 : decode m_Cr_gather.2.1 2 = .ok (.getfield 43, 3) := by decide +kernel
theorem d_Cr_gather_5 : decode m_Cr_gather.2.1 5 = .ok (.bipush (10), 2) := by decide +kernel
theorem d_Cr_gather_7 : decode m_Cr_gather.2.1 7 = .ok (.invokestatic 46, 3) := by decide +kernel
theorem d_Cr_gather_10 : decode m_Cr_gather.2.1 10 = .ok (.putfield 52, 3) := by decide +kernel
theorem d_Cr_gather_13 : decode m_Cr_gather.2.1 13 = .ok (.aload_n 0, 1) := by decide +kernel
theorem d_Cr_gather_14 : decode m_Cr_gather.2.1 14 = .ok (.aload_n 1, 1) := by decide +kernel
theorem d_Cr_gather_15 : decode m_Cr_gather.2.1 15 = .ok (.getfield 53, 3) := by decide +kernel
theorem d_Cr_gather_18 : decode m_Cr_gather.2.1 18 = .ok (.putfield 56, 3) := by decide +kernel
theorem d_Cr_gather_21 : decode m_Cr_gather.2.1 21 = .ok (.iconst 0, 1) := by decide +kernel
theorem d_Cr_gather_22 : decode m_Cr_gather.2.1 22 = .ok (.istore 4, 2) := by decide +kernel
theorem d_Cr_gather_24 : decode m_Cr_gather.2.1 24 = .ok (.iload 4, 2) := by decide +kernel
theorem d_Cr_gather_26 : decode m_Cr_gather.2.1 26 = .ok (.aload_n 0, 1) := by decide +kernel
theorem d_Cr_gather_27 : decode m_Cr_gather.2.1 27 = .ok (.getfield 52, 3) := by decide +kernel
theorem d_Cr_gather_30 : decode m_Cr_gather.2.1 30 = .ok (.if_icmp .ge (52), 3) := by decide +kernel
theorem d_Cr_gather_82 : decode m_Cr_gather.2.1 82 = .ok (.return_, 1) := by decide +kernel
theorem d_Cr_gather_33 : decode m_Cr_gather.2.1 33 = .ok (.aload_n 0, 1) := by decide +kernel
theorem d_Cr_gather_34 : decode m_Cr_gather.2.1 34 = .ok (.getfield 15, 3) := by decide +kernel
theorem d_Cr_gather_37 : decode m_Cr_gather.2.1 37 = .ok (.iload 4, 2) := by decide +kernel
theorem d_Cr_gather_39 : decode m_Cr_gather.2.1 39 = .ok (.aload_n 1, 1) := by decide +kernel
theorem d_Cr_gather_40 : decode m_Cr_gather.2.1 40 = .ok (.getfield 57, 3) := by decide +kernel
theorem d_Cr_gather_43 : decode m_Cr_gather.2.1 43 = .ok (.iload 4, 2) := by decide +kernel
theorem d_Cr_gather_45 : decode m_Cr_gather.2.1 45 = .ok (.iaload, 1) := by decide +kernel
theorem d_Cr_gather_46 : decode m_Cr_gather.2.1 46 = .ok (.iastore, 1) := by decide +kernel
theorem d_Cr_gather_47 : decode m_Cr_gather.2.1 47 = .ok (.aload_n 0, 1) := by decide +kernel
theorem d_Cr_gather_48 : decode m_Cr_gather.2.1 48 = .ok (.getfield 9, 3) := by decide +kernel
theorem d_Cr_gather_51 : decode m_Cr_gather.2.1 51 = .ok (.iload 4, 2) := by decide +kernel
theorem d_Cr_gather_53 : decode m_Cr_gather.2.1 53 = .ok (.aload_n 1, 1) := by decide +kernel
theorem d_Cr_gather_54 : decode m_Cr_gather.2.1 54 = .ok (.iload 4, 2) := by decide +kernel
theorem d_Cr_gather_56 : decode m_Cr_gather.2.1 56 = .ok (.aload_n 1, 1) := by decide +kernel
theorem d_Cr_gather_57 : decode m_Cr_gather.2.1 57 = .ok (.getfield 57, 3) := by decide +kernel
theorem d_Cr_gather_60 : decode m_Cr_gather.2.1 60 = .ok (.iload 4, 2) := by decide +kernel
theorem d_Cr_gather_62 : decode m_Cr_gather.2.1 62 = .ok (.iaload, 1) := by decide +kernel
theorem d_Cr_gather_63 : decode m_Cr_gather.2.1 63 = .ok (.aload_n 1, 1) := by decide +kernel
theorem d_Cr_gather_64 : decode m_Cr_gather.2.1 64 = .ok (.getfield 58, 3) := by decide +kernel
theorem d_Cr_gather_67 : decode m_Cr_gather.2.1 67 = .ok (.iload 4, 2) := by decide +kernel
theorem d_Cr_gather_69 : decode m_Cr_gather.2.1 69 = .ok (.iaload, 1) := by decide +kernel
theorem d_Cr_gather_70 : decode m_Cr_gather.2.1 70 = .ok (.iload_n 2, 1) := by decide +kernel
theorem d_Cr_gather_71 : decode m_Cr_gather.2.1 71 = .ok (.iload_n 3, 1) := by decide +kernel
theorem d_Cr_gather_72 : decode m_Cr_gather.2.1 72 = .ok (.invokevirtual 61, 3) := by decide +kernel
theorem d_Cr_gather_75 : decode m_Cr_gather.2.1 75 = .ok (.iastore, 1) := by decide +kernel
theorem d_Cr_gather_76 : decode m_Cr_gather.2.1 76 = .ok (.iinc 4 (1), 3) := by decide +kernel
theorem d_Cr_gather_79 : decode m_Cr_gather.2.1 79 = .ok (.goto (-55), 3) := by decide +kernel
theorem d_Cr_gatherNow_0 : decode m_Cr_gatherNow.2.1 0 = .ok (.aload_n 0, 1) := by decide +kernel
theorem d_Cr_gatherNow_1 : decode m_Cr_gatherNow.2.1 1 = .ok (.aload_n 1, 1) := by decide +kernel
theorem d_Cr_gatherNow_2 : decode m_Cr_gatherNow.2.1 2 = .ok (.aload_n 1, 1) := by decide +kernel
theorem d_Cr_gatherNow_3 : decode m_Cr_gatherNow.2.1 3 = .ok (.getfield 30, 3) := by decide +kernel
theorem d_Cr_gatherNow_6 : decode m_Cr_gatherNow.2.1 6 = .ok (.aload_n 1, 1) := by decide +kernel
theorem d_Cr_gatherNow_7 : decode m_Cr_gatherNow.2.1 7 = .ok (.getfield 36, 3) := by decide +kernel
theorem d_Cr_gatherNow_10 : decode m_Cr_gatherNow.2.1 10 = .ok (.invokevirtual 39, 3) := by decide +kernel
theorem d_Cr_gatherNow_13 : decode m_Cr_gatherNow.2.1 13 = .ok (.return_, 1) := by decide +kernel
theorem d_JI_bitCount_0 : decode m_JI_bitCount.2.1 0 = .ok (.iload_n 0, 1) := by decide +kernel
theorem d_JI_bitCount_1 : decode m_JI_bitCount.2.1 1 = .ok (.iload_n 0, 1) := by decide +kernel
theorem d_JI_bitCount_2 : decode m_JI_bitCount.2.1 2 = .ok (.iconst 1, 1) := by decide +kernel
theorem d_JI_bitCount_3 : decode m_JI_bitCount.2.1 3 = .ok (.iushr, 1) := by decide +kernel
theorem d_JI_bitCount_4 : decode m_JI_bitCount.2.1 4 = .ok (.ldc_w 265, 3) := by decide +kernel
theorem d_JI_bitCount_7 : decode m_JI_bitCount.2.1 7 = .ok (.iand, 1) := by decide +kernel
theorem d_JI_bitCount_8 : decode m_JI_bitCount.2.1 8 = .ok (.isub, 1) := by decide +kernel
theorem d_JI_bitCount_9 : decode m_JI_bitCount.2.1 9 = .ok (.istore_n 0, 1) := by decide +kernel
theorem d_JI_bitCount_10 : decode m_JI_bitCount.2.1 10 = .ok (.iload_n 0, 1) := by decide +kernel
theorem d_JI_bitCount_11 : decode m_JI_bitCount.2.1 11 = .ok (.ldc_w 266, 3) := by decide +kernel
theorem d_JI_bitCount_14 : decode m_JI_bitCount.2.1 14 = .ok (.iand, 1) := by decide +kernel
theorem d_JI_bitCount_15 : decode m_JI_bitCount.2.1 15 = .ok (.iload_n 0, 1) := by decide +kernel
theorem d_JI_bitCount_16 : decode m_JI_bitCount.2.1 16 = .ok (.iconst 2, 1) := by decide +kernel
theorem d_JI_bitCount_17 : decode m_JI_bitCount.2.1 17 = .ok (.iushr, 1) := by decide +kernel
theorem d_JI_bitCount_18 : decode m_JI_bitCount.2.1 18 = .ok (.ldc_w 266, 3) := by decide +kernel
theorem d_JI_bitCount_21 : decode m_JI_bitCount.2.1 21 = .ok (.iand, 1) := by decide +kernel
theorem d_JI_bitCount_22 : decode m_JI_bitCount.2.1 22 = .ok (.iadd, 1) := by decide +kernel
theorem d_JI_bitCount_23 : decode m_JI_bitCount.2.1 23 = .ok (.istore_n 0, 1) := by decide +kernel
theorem d_JI_bitCount_24 : decode m_JI_bitCount.2.1 24 = .ok (.iload_n 0, 1) := by decide +kernel
theorem d_JI_bitCount_25 : decode m_JI_bitCount.2.1 25 = .ok (.iload_n 0, 1) := by decide +kernel
theorem d_JI_bitCount_26 : decode m_JI_bitCount.2.1 26 = .ok (.iconst 4, 1) := by decide +kernel
theorem d_JI_bitCount_27 : decode m_JI_bitCount.2.1 27 = .ok (.iushr, 1) := by decide +kernel
theorem d_JI_bitCount_28 : decode m_JI_bitCount.2.1 28 = .ok (.iadd, 1) := by decide +kernel
theorem d_JI_bitCount_29 : decode m_JI_bitCount.2.1 29 = .ok (.ldc_w 267, 3) := by decide +kernel
theorem d_JI_bitCount_32 : decode m_JI_bitCount.2.1 32 = .ok (.iand, 1) := by decide +kernel
theorem d_JI_bitCount_33 : decode m_JI_bitCount.2.1 33 = .ok (.istore_n 0, 1) := by decide +kernel
theorem d_JI_bitCount_34 : decode m_JI_bitCount.2.1 34 = .ok (.iload_n 0, 1) := by decide +kernel
theorem d_JI_bitCount_35 : decode m_JI_bitCount.2.1 35 = .ok (.iload_n 0, 1) := by decide +kernel
theorem d_JI_bitCount_36 : decode m_JI_bitCount.2.1 36 = .ok (.bipush (8), 2) := by decide +kernel
theorem d_JI_bitCount_38 : decode m_JI_bitCount.2.1 38 = .ok (.iushr, 1) := by decide +kernel
theorem d_JI_bitCount_39 : decode m_JI_bitCount.2.1 39 = .ok (.iadd, 1) := by decide +kernel
theorem d_JI_bitCount_40 : decode m_JI_bitCount.2.1 40 = .ok (.istore_n 0, 1) := by decide +kernel
theorem d_JI_bitCount_41 : decode m_JI_bitCount.2.1 41 = .ok (.iload_n 0, 1) := by decide +kernel
theorem d_JI_bitCount_42 : decode m_JI_bitCount.2.1 42 = .ok (.iload_n 0, 1) := by decide +kernel
theorem d_JI_bitCount_43 : decode m_JI_bitCount.2.1 43 = .ok (.bipush (16), 2) := by decide +kernel
theorem d_JI_bitCount_45 : decode m_JI_bitCount.2.1 45 = .ok (.iushr, 1) := by decide +kernel
theorem d_JI_bitCount_46 : decode m_JI_bitCount.2.1 46 = .ok (.iadd, 1) := by decide +kernel
theorem d_JI_bitCount_47 : decode m_JI_bitCount.2.1 47 = .ok (.istore_n 0, 1) := by decide +kernel
theorem d_JI_bitCount_48 : decode m_JI_bitCount.2.1 48 = .ok (.iload_n 0, 1) := by decide +kernel
theorem d_JI_bitCount_49 : decode m_JI_bitCount.2.1 49 = .ok (.bipush (63), 2) := by decide +kernel
theorem d_JI_bitCount_51 : decode m_JI_bitCount.2.1 51 = .ok (.iand, 1) := by decide +kernel
theorem d_JI_bitCount_52 : decode m_JI_bitCount.2.1 52 = .ok (.ireturn, 1) := by decide +kernel
theorem d_Cr_isSaidByTwo_0 : decode m_Cr_isSaidByTwo.2.1 0 = .ok (.iconst 0, 1) := by decide +kernel
theorem d_Cr_isSaidByTwo_1 : decode m_Cr_isSaidByTwo.2.1 1 = .ok (.istore_n 2, 1) := by decide +kernel
theorem d_Cr_isSaidByTwo_2 : decode m_Cr_isSaidByTwo.2.1 2 = .ok (.iload_n 1, 1) := by decide +kernel
theorem d_Cr_isSaidByTwo_3 : decode m_Cr_isSaidByTwo.2.1 3 = .ok (.istore_n 3, 1) := by decide +kernel
theorem d_Cr_isSaidByTwo_4 : decode m_Cr_isSaidByTwo.2.1 4 = .ok (.iload_n 3, 1) := by decide +kernel
theorem d_Cr_isSaidByTwo_5 : decode m_Cr_isSaidByTwo.2.1 5 = .ok (.iload_n 1, 1) := by decide +kernel
theorem d_Cr_isSaidByTwo_6 : decode m_Cr_isSaidByTwo.2.1 6 = .ok (.aload_n 0, 1) := by decide +kernel
theorem d_Cr_isSaidByTwo_7 : decode m_Cr_isSaidByTwo.2.1 7 = .ok (.getfield 56, 3) := by decide +kernel
theorem d_Cr_isSaidByTwo_10 : decode m_Cr_isSaidByTwo.2.1 10 = .ok (.iadd, 1) := by decide +kernel
theorem d_Cr_isSaidByTwo_11 : decode m_Cr_isSaidByTwo.2.1 11 = .ok (.if_icmp .gt (24), 3) := by decide +kernel
theorem d_Cr_isSaidByTwo_35 : decode m_Cr_isSaidByTwo.2.1 35 = .ok (.aload_n 0, 1) := by decide +kernel
theorem d_Cr_isSaidByTwo_36 : decode m_Cr_isSaidByTwo.2.1 36 = .ok (.getfield 18, 3) := by decide +kernel
theorem d_Cr_isSaidByTwo_39 : decode m_Cr_isSaidByTwo.2.1 39 = .ok (.iload_n 1, 1) := by decide +kernel
theorem d_Cr_isSaidByTwo_40 : decode m_Cr_isSaidByTwo.2.1 40 = .ok (.iaload, 1) := by decide +kernel
theorem d_Cr_isSaidByTwo_41 : decode m_Cr_isSaidByTwo.2.1 41 = .ok (.ifCond .eq (15), 3) := by decide +kernel
theorem d_Cr_isSaidByTwo_56 : decode m_Cr_isSaidByTwo.2.1 56 = .ok (.iconst 0, 1) := by decide +kernel
theorem d_Cr_isSaidByTwo_57 : decode m_Cr_isSaidByTwo.2.1 57 = .ok (.ireturn, 1) := by decide +kernel
theorem d_Cr_isSaidByTwo_44 : decode m_Cr_isSaidByTwo.2.1 44 = .ok (.iload_n 2, 1) := by decide +kernel
theorem d_Cr_isSaidByTwo_45 : decode m_Cr_isSaidByTwo.2.1 45 = .ok (.invokestatic 107, 3) := by decide +kernel
theorem d_Cr_isSaidByTwo_48 : decode m_Cr_isSaidByTwo.2.1 48 = .ok (.iconst 2, 1) := by decide +kernel
theorem d_Cr_isSaidByTwo_49 : decode m_Cr_isSaidByTwo.2.1 49 = .ok (.if_icmp .lt (7), 3) := by decide +kernel
theorem d_Cr_isSaidByTwo_52 : decode m_Cr_isSaidByTwo.2.1 52 = .ok (.iconst 1, 1) := by decide +kernel
theorem d_Cr_isSaidByTwo_53 : decode m_Cr_isSaidByTwo.2.1 53 = .ok (.goto (4), 3) := by decide +kernel
theorem d_Cr_isSaidByTwo_14 : decode m_Cr_isSaidByTwo.2.1 14 = .ok (.iload_n 3, 1) := by decide +kernel
theorem d_Cr_isSaidByTwo_15 : decode m_Cr_isSaidByTwo.2.1 15 = .ok (.bipush (6), 2) := by decide +kernel
theorem d_Cr_isSaidByTwo_17 : decode m_Cr_isSaidByTwo.2.1 17 = .ok (.if_icmp .ge (18), 3) := by decide +kernel
theorem d_Cr_isSaidByTwo_20 : decode m_Cr_isSaidByTwo.2.1 20 = .ok (.iload_n 2, 1) := by decide +kernel
theorem d_Cr_isSaidByTwo_21 : decode m_Cr_isSaidByTwo.2.1 21 = .ok (.aload_n 0, 1) := by decide +kernel
theorem d_Cr_isSaidByTwo_22 : decode m_Cr_isSaidByTwo.2.1 22 = .ok (.getfield 18, 3) := by decide +kernel
theorem d_Cr_isSaidByTwo_25 : decode m_Cr_isSaidByTwo.2.1 25 = .ok (.iload_n 3, 1) := by decide +kernel
theorem d_Cr_isSaidByTwo_26 : decode m_Cr_isSaidByTwo.2.1 26 = .ok (.iaload, 1) := by decide +kernel
theorem d_Cr_isSaidByTwo_27 : decode m_Cr_isSaidByTwo.2.1 27 = .ok (.ior, 1) := by decide +kernel
theorem d_Cr_isSaidByTwo_28 : decode m_Cr_isSaidByTwo.2.1 28 = .ok (.istore_n 2, 1) := by decide +kernel
theorem d_Cr_isSaidByTwo_29 : decode m_Cr_isSaidByTwo.2.1 29 = .ok (.iinc 3 (1), 3) := by decide +kernel
theorem d_Cr_isSaidByTwo_32 : decode m_Cr_isSaidByTwo.2.1 32 = .ok (.goto (-28), 3) := by decide +kernel
theorem d_JA_fill_0 : decode m_JA_fill.2.1 0 = .ok (.iconst 0, 1) := by decide +kernel
theorem d_JA_fill_1 : decode m_JA_fill.2.1 1 = .ok (.istore_n 2, 1) := by decide +kernel
theorem d_JA_fill_2 : decode m_JA_fill.2.1 2 = .ok (.aload_n 0, 1) := by decide +kernel
theorem d_JA_fill_3 : decode m_JA_fill.2.1 3 = .ok (.arraylength, 1) := by decide +kernel
theorem d_JA_fill_4 : decode m_JA_fill.2.1 4 = .ok (.istore_n 3, 1) := by decide +kernel
theorem d_JA_fill_5 : decode m_JA_fill.2.1 5 = .ok (.iload_n 2, 1) := by decide +kernel
theorem d_JA_fill_6 : decode m_JA_fill.2.1 6 = .ok (.iload_n 3, 1) := by decide +kernel
theorem d_JA_fill_7 : decode m_JA_fill.2.1 7 = .ok (.if_icmp .ge (13), 3) := by decide +kernel
theorem d_JA_fill_10 : decode m_JA_fill.2.1 10 = .ok (.aload_n 0, 1) := by decide +kernel
theorem d_JA_fill_11 : decode m_JA_fill.2.1 11 = .ok (.iload_n 2, 1) := by decide +kernel
theorem d_JA_fill_12 : decode m_JA_fill.2.1 12 = .ok (.iload_n 1, 1) := by decide +kernel
theorem d_JA_fill_13 : decode m_JA_fill.2.1 13 = .ok (.iastore, 1) := by decide +kernel
theorem d_JA_fill_14 : decode m_JA_fill.2.1 14 = .ok (.iinc 2 (1), 3) := by decide +kernel
theorem d_JA_fill_17 : decode m_JA_fill.2.1 17 = .ok (.goto (-12), 3) := by decide +kernel
theorem d_JA_fill_20 : decode m_JA_fill.2.1 20 = .ok (.return_, 1) := by decide +kernel
theorem d_Cr_happened_0 : decode m_Cr_happened.2.1 0 = .ok (.aload_n 0, 1) := by decide +kernel
theorem d_Cr_happened_1 : decode m_Cr_happened.2.1 1 = .ok (.getfield 18, 3) := by decide +kernel
theorem d_Cr_happened_4 : decode m_Cr_happened.2.1 4 = .ok (.iconst 0, 1) := by decide +kernel
theorem d_Cr_happened_5 : decode m_Cr_happened.2.1 5 = .ok (.invokestatic 65, 3) := by decide +kernel
theorem d_Cr_happened_8 : decode m_Cr_happened.2.1 8 = .ok (.iconst 0, 1) := by decide +kernel
theorem d_Cr_happened_9 : decode m_Cr_happened.2.1 9 = .ok (.istore_n 2, 1) := by decide +kernel
theorem d_Cr_happened_10 : decode m_Cr_happened.2.1 10 = .ok (.iload_n 2, 1) := by decide +kernel
theorem d_Cr_happened_11 : decode m_Cr_happened.2.1 11 = .ok (.aload_n 0, 1) := by decide +kernel
theorem d_Cr_happened_12 : decode m_Cr_happened.2.1 12 = .ok (.getfield 52, 3) := by decide +kernel
theorem d_Cr_happened_15 : decode m_Cr_happened.2.1 15 = .ok (.if_icmp .ge (50), 3) := by decide +kernel
theorem d_Cr_happened_65 : decode m_Cr_happened.2.1 65 = .ok (.iconst 0, 1) := by decide +kernel
theorem d_Cr_happened_66 : decode m_Cr_happened.2.1 66 = .ok (.istore_n 2, 1) := by decide +kernel
theorem d_Cr_happened_67 : decode m_Cr_happened.2.1 67 = .ok (.iconst 0, 1) := by decide +kernel
theorem d_Cr_happened_68 : decode m_Cr_happened.2.1 68 = .ok (.istore_n 3, 1) := by decide +kernel
theorem d_Cr_happened_69 : decode m_Cr_happened.2.1 69 = .ok (.iload_n 3, 1) := by decide +kernel
theorem d_Cr_happened_70 : decode m_Cr_happened.2.1 70 = .ok (.bipush (6), 2) := by decide +kernel
theorem d_Cr_happened_72 : decode m_Cr_happened.2.1 72 = .ok (.if_icmp .ge (27), 3) := by decide +kernel
theorem d_Cr_happened_99 : decode m_Cr_happened.2.1 99 = .ok (.iload_n 2, 1) := by decide +kernel
theorem d_Cr_happened_100 : decode m_Cr_happened.2.1 100 = .ok (.ireturn, 1) := by decide +kernel
theorem d_Cr_happened_75 : decode m_Cr_happened.2.1 75 = .ok (.iload_n 2, 1) := by decide +kernel
theorem d_Cr_happened_76 : decode m_Cr_happened.2.1 76 = .ok (.aload_n 0, 1) := by decide +kernel
theorem d_Cr_happened_77 : decode m_Cr_happened.2.1 77 = .ok (.iload_n 3, 1) := by decide +kernel
theorem d_Cr_happened_78 : decode m_Cr_happened.2.1 78 = .ok (.invokevirtual 103, 3) := by decide +kernel
theorem d_Cr_happened_81 : decode m_Cr_happened.2.1 81 = .ok (.ifCond .eq (9), 3) := by decide +kernel
theorem d_Cr_happened_90 : decode m_Cr_happened.2.1 90 = .ok (.iconst 0, 1) := by decide +kernel
theorem d_Cr_happened_91 : decode m_Cr_happened.2.1 91 = .ok (.ior, 1) := by decide +kernel
theorem d_Cr_happened_92 : decode m_Cr_happened.2.1 92 = .ok (.istore_n 2, 1) := by decide +kernel
theorem d_Cr_happened_93 : decode m_Cr_happened.2.1 93 = .ok (.iinc 3 (1), 3) := by decide +kernel
theorem d_Cr_happened_96 : decode m_Cr_happened.2.1 96 = .ok (.goto (-27), 3) := by decide +kernel
theorem d_Cr_happened_84 : decode m_Cr_happened.2.1 84 = .ok (.iconst 1, 1) := by decide +kernel
theorem d_Cr_happened_85 : decode m_Cr_happened.2.1 85 = .ok (.iload_n 3, 1) := by decide +kernel
theorem d_Cr_happened_86 : decode m_Cr_happened.2.1 86 = .ok (.ishl, 1) := by decide +kernel
theorem d_Cr_happened_87 : decode m_Cr_happened.2.1 87 = .ok (.goto (4), 3) := by decide +kernel
theorem d_Cr_happened_18 : decode m_Cr_happened.2.1 18 = .ok (.iload_n 2, 1) := by decide +kernel
theorem d_Cr_happened_19 : decode m_Cr_happened.2.1 19 = .ok (.iload_n 1, 1) := by decide +kernel
theorem d_Cr_happened_20 : decode m_Cr_happened.2.1 20 = .ok (.if_icmp .eq (39), 3) := by decide +kernel
theorem d_Cr_happened_59 : decode m_Cr_happened.2.1 59 = .ok (.iinc 2 (1), 3) := by decide +kernel
theorem d_Cr_happened_62 : decode m_Cr_happened.2.1 62 = .ok (.goto (-52), 3) := by decide +kernel
theorem d_Cr_happened_23 : decode m_Cr_happened.2.1 23 = .ok (.aload_n 0, 1) := by decide +kernel
theorem d_Cr_happened_24 : decode m_Cr_happened.2.1 24 = .ok (.getfield 9, 3) := by decide +kernel
theorem d_Cr_happened_27 : decode m_Cr_happened.2.1 27 = .ok (.iload_n 2, 1) := by decide +kernel
theorem d_Cr_happened_28 : decode m_Cr_happened.2.1 28 = .ok (.iaload, 1) := by decide +kernel
theorem d_Cr_happened_29 : decode m_Cr_happened.2.1 29 = .ok (.bipush (6), 2) := by decide +kernel
theorem d_Cr_happened_31 : decode m_Cr_happened.2.1 31 = .ok (.invokestatic 81, 3) := by decide +kernel
theorem d_Cr_happened_34 : decode m_Cr_happened.2.1 34 = .ok (.ifCond .eq (25), 3) := by decide +kernel
theorem d_Cr_happened_37 : decode m_Cr_happened.2.1 37 = .ok (.aload_n 0, 1) := by decide +kernel
theorem d_Cr_happened_38 : decode m_Cr_happened.2.1 38 = .ok (.getfield 18, 3) := by decide +kernel
theorem d_Cr_happened_41 : decode m_Cr_happened.2.1 41 = .ok (.aload_n 0, 1) := by decide +kernel
theorem d_Cr_happened_42 : decode m_Cr_happened.2.1 42 = .ok (.getfield 9, 3) := by decide +kernel
theorem d_Cr_happened_45 : decode m_Cr_happened.2.1 45 = .ok (.iload_n 2, 1) := by decide +kernel
theorem d_Cr_happened_46 : decode m_Cr_happened.2.1 46 = .ok (.iaload, 1) := by decide +kernel
theorem d_Cr_happened_47 : decode m_Cr_happened.2.1 47 = .ok (.dup2, 1) := by decide +kernel
theorem d_Cr_happened_48 : decode m_Cr_happened.2.1 48 = .ok (.iaload, 1) := by decide +kernel
theorem d_Cr_happened_49 : decode m_Cr_happened.2.1 49 = .ok (.iconst 1, 1) := by decide +kernel
theorem d_Cr_happened_50 : decode m_Cr_happened.2.1 50 = .ok (.aload_n 0, 1) := by decide +kernel
theorem d_Cr_happened_51 : decode m_Cr_happened.2.1 51 = .ok (.getfield 15, 3) := by decide +kernel
theorem d_Cr_happened_54 : decode m_Cr_happened.2.1 54 = .ok (.iload_n 2, 1) := by decide +kernel
theorem d_Cr_happened_55 : decode m_Cr_happened.2.1 55 = .ok (.iaload, 1) := by decide +kernel
theorem d_Cr_happened_56 : decode m_Cr_happened.2.1 56 = .ok (.ishl, 1) := by decide +kernel
theorem d_Cr_happened_57 : decode m_Cr_happened.2.1 57 = .ok (.ior, 1) := by decide +kernel
theorem d_Cr_happened_58 : decode m_Cr_happened.2.1 58 = .ok (.iastore, 1) := by decide +kernel
theorem d_T_all_0 : decode m_T_all.2.1 0 = .ok (.iload_n 1, 1) := by decide +kernel
theorem d_T_all_1 : decode m_T_all.2.1 1 = .ok (.iconst 2, 1) := by decide +kernel
theorem d_T_all_2 : decode m_T_all.2.1 2 = .ok (.invokestatic 72, 3) := by decide +kernel
theorem d_T_all_5 : decode m_T_all.2.1 5 = .ok (.ifCond .ne (5), 3) := by decide +kernel
theorem d_T_all_8 : decode m_T_all.2.1 8 = .ok (.iconst (-1), 1) := by decide +kernel
theorem d_T_all_9 : decode m_T_all.2.1 9 = .ok (.ireturn, 1) := by decide +kernel
theorem d_T_all_10 : decode m_T_all.2.1 10 = .ok (.aload_n 0, 1) := by decide +kernel
theorem d_T_all_11 : decode m_T_all.2.1 11 = .ok (.getfield 19, 3) := by decide +kernel
theorem d_T_all_14 : decode m_T_all.2.1 14 = .ok (.aload_n 0, 1) := by decide +kernel
theorem d_T_all_15 : decode m_T_all.2.1 15 = .ok (.getfield 10, 3) := by decide +kernel
theorem d_T_all_18 : decode m_T_all.2.1 18 = .ok (.invokevirtual 132, 3) := by decide +kernel
theorem d_T_all_21 : decode m_T_all.2.1 21 = .ok (.iload_n 1, 1) := by decide +kernel
theorem d_T_all_22 : decode m_T_all.2.1 22 = .ok (.ifCond .ne (15), 3) := by decide +kernel
theorem d_T_all_25 : decode m_T_all.2.1 25 = .ok (.aload_n 0, 1) := by decide +kernel
theorem d_T_all_26 : decode m_T_all.2.1 26 = .ok (.getfield 19, 3) := by decide +kernel
theorem d_T_all_29 : decode m_T_all.2.1 29 = .ok (.bipush (10), 2) := by decide +kernel
theorem d_T_all_31 : decode m_T_all.2.1 31 = .ok (.invokevirtual 136, 3) := by decide +kernel
theorem d_T_all_34 : decode m_T_all.2.1 34 = .ok (.goto (10), 3) := by decide +kernel
theorem d_T_all_44 : decode m_T_all.2.1 44 = .ok (.ireturn, 1) := by decide +kernel
theorem d_T_all_37 : decode m_T_all.2.1 37 = .ok (.aload_n 0, 1) := by decide +kernel
theorem d_T_all_38 : decode m_T_all.2.1 38 = .ok (.getfield 19, 3) := by decide +kernel
theorem d_T_all_41 : decode m_T_all.2.1 41 = .ok (.invokevirtual 139, 3) := by decide +kernel
theorem d_Cr_speakers_0 : decode m_Cr_speakers.2.1 0 = .ok (.iconst 0, 1) := by decide +kernel
theorem d_Cr_speakers_1 : decode m_Cr_speakers.2.1 1 = .ok (.istore_n 3, 1) := by decide +kernel
theorem d_Cr_speakers_2 : decode m_Cr_speakers.2.1 2 = .ok (.iconst 0, 1) := by decide +kernel
theorem d_Cr_speakers_3 : decode m_Cr_speakers.2.1 3 = .ok (.istore 4, 2) := by decide +kernel
theorem d_Cr_speakers_5 : decode m_Cr_speakers.2.1 5 = .ok (.iload 4, 2) := by decide +kernel
theorem d_Cr_speakers_7 : decode m_Cr_speakers.2.1 7 = .ok (.aload_n 0, 1) := by decide +kernel
theorem d_Cr_speakers_8 : decode m_Cr_speakers.2.1 8 = .ok (.getfield 52, 3) := by decide +kernel
theorem d_Cr_speakers_11 : decode m_Cr_speakers.2.1 11 = .ok (.if_icmp .ge (39), 3) := by decide +kernel
theorem d_Cr_speakers_50 : decode m_Cr_speakers.2.1 50 = .ok (.iload_n 3, 1) := by decide +kernel
theorem d_Cr_speakers_51 : decode m_Cr_speakers.2.1 51 = .ok (.ireturn, 1) := by decide +kernel
theorem d_Cr_speakers_14 : decode m_Cr_speakers.2.1 14 = .ok (.iload_n 3, 1) := by decide +kernel
theorem d_Cr_speakers_15 : decode m_Cr_speakers.2.1 15 = .ok (.aload_n 0, 1) := by decide +kernel
theorem d_Cr_speakers_16 : decode m_Cr_speakers.2.1 16 = .ok (.getfield 9, 3) := by decide +kernel
theorem d_Cr_speakers_19 : decode m_Cr_speakers.2.1 19 = .ok (.iload 4, 2) := by decide +kernel
theorem d_Cr_speakers_21 : decode m_Cr_speakers.2.1 21 = .ok (.iaload, 1) := by decide +kernel
theorem d_Cr_speakers_22 : decode m_Cr_speakers.2.1 22 = .ok (.iload_n 1, 1) := by decide +kernel
theorem d_Cr_speakers_23 : decode m_Cr_speakers.2.1 23 = .ok (.if_icmp .lt (18), 3) := by decide +kernel
theorem d_Cr_speakers_41 : decode m_Cr_speakers.2.1 41 = .ok (.iconst 0, 1) := by decide +kernel
theorem d_Cr_speakers_42 : decode m_Cr_speakers.2.1 42 = .ok (.iadd, 1) := by decide +kernel
theorem d_Cr_speakers_43 : decode m_Cr_speakers.2.1 43 = .ok (.istore_n 3, 1) := by decide +kernel
theorem d_Cr_speakers_44 : decode m_Cr_speakers.2.1 44 = .ok (.iinc 4 (1), 3) := by decide +kernel
theorem d_Cr_speakers_47 : decode m_Cr_speakers.2.1 47 = .ok (.goto (-42), 3) := by decide +kernel
theorem d_Cr_speakers_26 : decode m_Cr_speakers.2.1 26 = .ok (.aload_n 0, 1) := by decide +kernel
theorem d_Cr_speakers_27 : decode m_Cr_speakers.2.1 27 = .ok (.getfield 9, 3) := by decide +kernel
theorem d_Cr_speakers_30 : decode m_Cr_speakers.2.1 30 = .ok (.iload 4, 2) := by decide +kernel
theorem d_Cr_speakers_32 : decode m_Cr_speakers.2.1 32 = .ok (.iaload, 1) := by decide +kernel
theorem d_Cr_speakers_33 : decode m_Cr_speakers.2.1 33 = .ok (.iload_n 2, 1) := by decide +kernel
theorem d_Cr_speakers_34 : decode m_Cr_speakers.2.1 34 = .ok (.if_icmp .gt (7), 3) := by decide +kernel
theorem d_Cr_speakers_37 : decode m_Cr_speakers.2.1 37 = .ok (.iconst 1, 1) := by decide +kernel
theorem d_Cr_speakers_38 : decode m_Cr_speakers.2.1 38 = .ok (.goto (4), 3) := by decide +kernel
theorem d_T_saying_0 : decode m_T_saying.2.1 0 = .ok (.iload_n 1, 1) := by decide +kernel
theorem d_T_saying_1 : decode m_T_saying.2.1 1 = .ok (.bipush (6), 2) := by decide +kernel
theorem d_T_saying_3 : decode m_T_saying.2.1 3 = .ok (.invokestatic 72, 3) := by decide +kernel
theorem d_T_saying_6 : decode m_T_saying.2.1 6 = .ok (.ifCond .ne (5), 3) := by decide +kernel
theorem d_T_saying_9 : decode m_T_saying.2.1 9 = .ok (.iconst (-1), 1) := by decide +kernel
theorem d_T_saying_10 : decode m_T_saying.2.1 10 = .ok (.ireturn, 1) := by decide +kernel
theorem d_T_saying_11 : decode m_T_saying.2.1 11 = .ok (.aload_n 0, 1) := by decide +kernel
theorem d_T_saying_12 : decode m_T_saying.2.1 12 = .ok (.getfield 19, 3) := by decide +kernel
theorem d_T_saying_15 : decode m_T_saying.2.1 15 = .ok (.aload_n 0, 1) := by decide +kernel
theorem d_T_saying_16 : decode m_T_saying.2.1 16 = .ok (.getfield 10, 3) := by decide +kernel
theorem d_T_saying_19 : decode m_T_saying.2.1 19 = .ok (.invokevirtual 132, 3) := by decide +kernel
theorem d_T_saying_22 : decode m_T_saying.2.1 22 = .ok (.aload_n 0, 1) := by decide +kernel
theorem d_T_saying_23 : decode m_T_saying.2.1 23 = .ok (.getfield 19, 3) := by decide +kernel
theorem d_T_saying_26 : decode m_T_saying.2.1 26 = .ok (.iload_n 1, 1) := by decide +kernel
theorem d_T_saying_27 : decode m_T_saying.2.1 27 = .ok (.iload_n 1, 1) := by decide +kernel
theorem d_T_saying_28 : decode m_T_saying.2.1 28 = .ok (.invokevirtual 143, 3) := by decide +kernel
theorem d_T_saying_31 : decode m_T_saying.2.1 31 = .ok (.ireturn, 1) := by decide +kernel
theorem d_T_has_0 : decode m_T_has.2.1 0 = .ok (.iload_n 0, 1) := by decide +kernel
theorem d_T_has_1 : decode m_T_has.2.1 1 = .ok (.iload_n 1, 1) := by decide +kernel
theorem d_T_has_2 : decode m_T_has.2.1 2 = .ok (.iushr, 1) := by decide +kernel
theorem d_T_has_3 : decode m_T_has.2.1 3 = .ok (.iconst 1, 1) := by decide +kernel
theorem d_T_has_4 : decode m_T_has.2.1 4 = .ok (.iand, 1) := by decide +kernel
theorem d_T_has_5 : decode m_T_has.2.1 5 = .ok (.ifCond .eq (7), 3) := by decide +kernel
theorem d_T_has_12 : decode m_T_has.2.1 12 = .ok (.iconst 0, 1) := by decide +kernel
theorem d_T_has_13 : decode m_T_has.2.1 13 = .ok (.ireturn, 1) := by decide +kernel
theorem d_T_has_8 : decode m_T_has.2.1 8 = .ok (.iconst 1, 1) := by decide +kernel
theorem d_T_has_9 : decode m_T_has.2.1 9 = .ok (.goto (4), 3) := by decide +kernel
theorem d_Cr_metBy_0 : decode m_Cr_metBy.2.1 0 = .ok (.iconst 0, 1) := by decide +kernel
theorem d_Cr_metBy_1 : decode m_Cr_metBy.2.1 1 = .ok (.istore_n 3, 1) := by decide +kernel
theorem d_Cr_metBy_2 : decode m_Cr_metBy.2.1 2 = .ok (.iconst 0, 1) := by decide +kernel
theorem d_Cr_metBy_3 : decode m_Cr_metBy.2.1 3 = .ok (.istore 4, 2) := by decide +kernel
theorem d_Cr_metBy_5 : decode m_Cr_metBy.2.1 5 = .ok (.iload 4, 2) := by decide +kernel
theorem d_Cr_metBy_7 : decode m_Cr_metBy.2.1 7 = .ok (.aload_n 0, 1) := by decide +kernel
theorem d_Cr_metBy_8 : decode m_Cr_metBy.2.1 8 = .ok (.getfield 52, 3) := by decide +kernel
theorem d_Cr_metBy_11 : decode m_Cr_metBy.2.1 11 = .ok (.if_icmp .ge (68), 3) := by decide +kernel
theorem d_Cr_metBy_79 : decode m_Cr_metBy.2.1 79 = .ok (.iload_n 3, 1) := by decide +kernel
theorem d_Cr_metBy_80 : decode m_Cr_metBy.2.1 80 = .ok (.ireturn, 1) := by decide +kernel
theorem d_Cr_metBy_14 : decode m_Cr_metBy.2.1 14 = .ok (.iload_n 1, 1) := by decide +kernel
theorem d_Cr_metBy_15 : decode m_Cr_metBy.2.1 15 = .ok (.aload_n 0, 1) := by decide +kernel
theorem d_Cr_metBy_16 : decode m_Cr_metBy.2.1 16 = .ok (.getfield 52, 3) := by decide +kernel
theorem d_Cr_metBy_19 : decode m_Cr_metBy.2.1 19 = .ok (.invokestatic 81, 3) := by decide +kernel
theorem d_Cr_metBy_22 : decode m_Cr_metBy.2.1 22 = .ok (.ifCond .eq (51), 3) := by decide +kernel
theorem d_Cr_metBy_73 : decode m_Cr_metBy.2.1 73 = .ok (.iinc 4 (1), 3) := by decide +kernel
theorem d_Cr_metBy_76 : decode m_Cr_metBy.2.1 76 = .ok (.goto (-71), 3) := by decide +kernel
theorem d_Cr_metBy_25 : decode m_Cr_metBy.2.1 25 = .ok (.iload_n 2, 1) := by decide +kernel
theorem d_Cr_metBy_26 : decode m_Cr_metBy.2.1 26 = .ok (.iload 4, 2) := by decide +kernel
theorem d_Cr_metBy_28 : decode m_Cr_metBy.2.1 28 = .ok (.invokestatic 97, 3) := by decide +kernel
theorem d_Cr_metBy_31 : decode m_Cr_metBy.2.1 31 = .ok (.ifCond .eq (42), 3) := by decide +kernel
theorem d_Cr_metBy_34 : decode m_Cr_metBy.2.1 34 = .ok (.iload_n 2, 1) := by decide +kernel
theorem d_Cr_metBy_35 : decode m_Cr_metBy.2.1 35 = .ok (.iload_n 1, 1) := by decide +kernel
theorem d_Cr_metBy_36 : decode m_Cr_metBy.2.1 36 = .ok (.invokestatic 97, 3) := by decide +kernel
theorem d_Cr_metBy_39 : decode m_Cr_metBy.2.1 39 = .ok (.ifCond .ne (34), 3) := by decide +kernel
theorem d_Cr_metBy_42 : decode m_Cr_metBy.2.1 42 = .ok (.aload_n 0, 1) := by decide +kernel
theorem d_Cr_metBy_43 : decode m_Cr_metBy.2.1 43 = .ok (.iload_n 1, 1) := by decide +kernel
theorem d_Cr_metBy_44 : decode m_Cr_metBy.2.1 44 = .ok (.iload 4, 2) := by decide +kernel
theorem d_Cr_metBy_46 : decode m_Cr_metBy.2.1 46 = .ok (.invokevirtual 100, 3) := by decide +kernel
theorem d_Cr_metBy_49 : decode m_Cr_metBy.2.1 49 = .ok (.ifCond .eq (24), 3) := by decide +kernel
theorem d_Cr_metBy_52 : decode m_Cr_metBy.2.1 52 = .ok (.iload_n 3, 1) := by decide +kernel
theorem d_Cr_metBy_53 : decode m_Cr_metBy.2.1 53 = .ok (.iconst 1, 1) := by decide +kernel
theorem d_Cr_metBy_54 : decode m_Cr_metBy.2.1 54 = .ok (.aload_n 0, 1) := by decide +kernel
theorem d_Cr_metBy_55 : decode m_Cr_metBy.2.1 55 = .ok (.getfield 9, 3) := by decide +kernel
theorem d_Cr_metBy_58 : decode m_Cr_metBy.2.1 58 = .ok (.iload_n 1, 1) := by decide +kernel
theorem d_Cr_metBy_59 : decode m_Cr_metBy.2.1 59 = .ok (.iaload, 1) := by decide +kernel
theorem d_Cr_metBy_60 : decode m_Cr_metBy.2.1 60 = .ok (.aload_n 0, 1) := by decide +kernel
theorem d_Cr_metBy_61 : decode m_Cr_metBy.2.1 61 = .ok (.getfield 9, 3) := by decide +kernel
theorem d_Cr_metBy_64 : decode m_Cr_metBy.2.1 64 = .ok (.iload 4, 2) := by decide +kernel
theorem d_Cr_metBy_66 : decode m_Cr_metBy.2.1 66 = .ok (.iaload, 1) := by decide +kernel
theorem d_Cr_metBy_67 : decode m_Cr_metBy.2.1 67 = .ok (.invokestatic 46, 3) := by decide +kernel
theorem d_Cr_metBy_70 : decode m_Cr_metBy.2.1 70 = .ok (.ishl, 1) := by decide +kernel
theorem d_Cr_metBy_71 : decode m_Cr_metBy.2.1 71 = .ok (.ior, 1) := by decide +kernel
theorem d_Cr_metBy_72 : decode m_Cr_metBy.2.1 72 = .ok (.istore_n 3, 1) := by decide +kernel
theorem d_Sh_refusal_0 : decode m_Sh_refusal.2.1 0 = .ok (.aload_n 0, 1) := by decide +kernel
theorem d_Sh_refusal_1 : decode m_Sh_refusal.2.1 1 = .ok (.getfield 15, 3) := by decide +kernel
theorem d_Sh_refusal_4 : decode m_Sh_refusal.2.1 4 = .ok (.ifCond .ne (8), 3) := by decide +kernel
theorem d_Sh_refusal_7 : decode m_Sh_refusal.2.1 7 = .ok (.bipush (-11), 2) := by decide +kernel
theorem d_Sh_refusal_9 : decode m_Sh_refusal.2.1 9 = .ok (.goto (5), 3) := by decide +kernel
theorem d_Sh_refusal_14 : decode m_Sh_refusal.2.1 14 = .ok (.ireturn, 1) := by decide +kernel
theorem d_Sh_refusal_12 : decode m_Sh_refusal.2.1 12 = .ok (.bipush (-12), 2) := by decide +kernel
theorem d_T_claims_0 : decode m_T_claims.2.1 0 = .ok (.iload_n 1, 1) := by decide +kernel
theorem d_T_claims_1 : decode m_T_claims.2.1 1 = .ok (.bipush (6), 2) := by decide +kernel
theorem d_T_claims_3 : decode m_T_claims.2.1 3 = .ok (.invokestatic 72, 3) := by decide +kernel
theorem d_T_claims_6 : decode m_T_claims.2.1 6 = .ok (.ifCond .eq (21), 3) := by decide +kernel
theorem d_T_claims_27 : decode m_T_claims.2.1 27 = .ok (.iconst (-1), 1) := by decide +kernel
theorem d_T_claims_28 : decode m_T_claims.2.1 28 = .ok (.ireturn, 1) := by decide +kernel
theorem d_T_claims_9 : decode m_T_claims.2.1 9 = .ok (.iload_n 2, 1) := by decide +kernel
theorem d_T_claims_10 : decode m_T_claims.2.1 10 = .ok (.ifCond .lt (17), 3) := by decide +kernel
theorem d_T_claims_13 : decode m_T_claims.2.1 13 = .ok (.iload_n 2, 1) := by decide +kernel
theorem d_T_claims_14 : decode m_T_claims.2.1 14 = .ok (.bipush (40), 2) := by decide +kernel
theorem d_T_claims_16 : decode m_T_claims.2.1 16 = .ok (.if_icmp .gt (11), 3) := by decide +kernel
theorem d_T_claims_19 : decode m_T_claims.2.1 19 = .ok (.iload_n 3, 1) := by decide +kernel
theorem d_T_claims_20 : decode m_T_claims.2.1 20 = .ok (.iconst 3, 1) := by decide +kernel
theorem d_T_claims_21 : decode m_T_claims.2.1 21 = .ok (.invokestatic 72, 3) := by decide +kernel
theorem d_T_claims_24 : decode m_T_claims.2.1 24 = .ok (.ifCond .ne (5), 3) := by decide +kernel
theorem d_T_claims_29 : decode m_T_claims.2.1 29 = .ok (.aload_n 0, 1) := by decide +kernel
theorem d_T_claims_30 : decode m_T_claims.2.1 30 = .ok (.getfield 67, 3) := by decide +kernel
theorem d_T_claims_33 : decode m_T_claims.2.1 33 = .ok (.iload_n 1, 1) := by decide +kernel
theorem d_T_claims_34 : decode m_T_claims.2.1 34 = .ok (.aaload, 1) := by decide +kernel
theorem d_T_claims_35 : decode m_T_claims.2.1 35 = .ok (.astore 4, 2) := by decide +kernel
theorem d_T_claims_37 : decode m_T_claims.2.1 37 = .ok (.aload 4, 2) := by decide +kernel
theorem d_T_claims_39 : decode m_T_claims.2.1 39 = .ok (.invokevirtual 84, 3) := by decide +kernel
theorem d_T_claims_42 : decode m_T_claims.2.1 42 = .ok (.ifCond .ne (9), 3) := by decide +kernel
theorem d_T_claims_45 : decode m_T_claims.2.1 45 = .ok (.aload 4, 2) := by decide +kernel
theorem d_T_claims_47 : decode m_T_claims.2.1 47 = .ok (.invokevirtual 146, 3) := by decide +kernel
theorem d_T_claims_50 : decode m_T_claims.2.1 50 = .ok (.ireturn, 1) := by decide +kernel
theorem d_T_claims_51 : decode m_T_claims.2.1 51 = .ok (.aload_n 0, 1) := by decide +kernel
theorem d_T_claims_52 : decode m_T_claims.2.1 52 = .ok (.getfield 19, 3) := by decide +kernel
theorem d_T_claims_55 : decode m_T_claims.2.1 55 = .ok (.aload_n 0, 1) := by decide +kernel
theorem d_T_claims_56 : decode m_T_claims.2.1 56 = .ok (.getfield 10, 3) := by decide +kernel
theorem d_T_claims_59 : decode m_T_claims.2.1 59 = .ok (.invokevirtual 132, 3) := by decide +kernel
theorem d_T_claims_62 : decode m_T_claims.2.1 62 = .ok (.iconst 0, 1) := by decide +kernel
theorem d_T_claims_63 : decode m_T_claims.2.1 63 = .ok (.istore 5, 2) := by decide +kernel
theorem d_T_claims_65 : decode m_T_claims.2.1 65 = .ok (.iconst 0, 1) := by decide +kernel
theorem d_T_claims_66 : decode m_T_claims.2.1 66 = .ok (.istore 6, 2) := by decide +kernel
theorem d_T_claims_68 : decode m_T_claims.2.1 68 = .ok (.bipush (-2), 2) := by decide +kernel
theorem d_T_claims_70 : decode m_T_claims.2.1 70 = .ok (.istore 7, 2) := by decide +kernel
theorem d_T_claims_72 : decode m_T_claims.2.1 72 = .ok (.iconst 0, 1) := by decide +kernel
theorem d_T_claims_73 : decode m_T_claims.2.1 73 = .ok (.istore 8, 2) := by decide +kernel
theorem d_T_claims_75 : decode m_T_claims.2.1 75 = .ok (.iload 8, 2) := by decide +kernel
theorem d_T_claims_77 : decode m_T_claims.2.1 77 = .ok (.iload_n 2, 1) := by decide +kernel
theorem d_T_claims_78 : decode m_T_claims.2.1 78 = .ok (.if_icmp .ge (84), 3) := by decide +kernel
theorem d_T_claims_162 : decode m_T_claims.2.1 162 = .ok (.iload_n 3, 1) := by decide +kernel
theorem d_T_claims_163 : decode m_T_claims.2.1 163 = .ok (.ifCond .ne (8), 3) := by decide +kernel
theorem d_T_claims_166 : decode m_T_claims.2.1 166 = .ok (.iload 6, 2) := by decide +kernel
theorem d_T_claims_168 : decode m_T_claims.2.1 168 = .ok (.goto (18), 3) := by decide +kernel
theorem d_T_claims_186 : decode m_T_claims.2.1 186 = .ok (.ireturn, 1) := by decide +kernel
theorem d_T_claims_171 : decode m_T_claims.2.1 171 = .ok (.iload_n 3, 1) := by decide +kernel
theorem d_T_claims_172 : decode m_T_claims.2.1 172 = .ok (.iconst 1, 1) := by decide +kernel
theorem d_T_claims_173 : decode m_T_claims.2.1 173 = .ok (.if_icmp .ne (8), 3) := by decide +kernel
theorem d_T_claims_176 : decode m_T_claims.2.1 176 = .ok (.iload 7, 2) := by decide +kernel
theorem d_T_claims_178 : decode m_T_claims.2.1 178 = .ok (.goto (8), 3) := by decide +kernel
theorem d_T_claims_181 : decode m_T_claims.2.1 181 = .ok (.iload 5, 2) := by decide +kernel
theorem d_T_claims_183 : decode m_T_claims.2.1 183 = .ok (.invokestatic 155, 3) := by decide +kernel
theorem d_T_claims_81 : decode m_T_claims.2.1 81 = .ok (.aload 4, 2) := by decide +kernel
theorem d_T_claims_83 : decode m_T_claims.2.1 83 = .ok (.iload 8, 2) := by decide +kernel
theorem d_T_claims_85 : decode m_T_claims.2.1 85 = .ok (.invokevirtual 149, 3) := by decide +kernel
theorem d_T_claims_88 : decode m_T_claims.2.1 88 = .ok (.aload_n 0, 1) := by decide +kernel
theorem d_T_claims_89 : decode m_T_claims.2.1 89 = .ok (.getfield 10, 3) := by decide +kernel
theorem d_T_claims_92 : decode m_T_claims.2.1 92 = .ok (.getfield 126, 3) := by decide +kernel
theorem d_T_claims_95 : decode m_T_claims.2.1 95 = .ok (.invokestatic 72, 3) := by decide +kernel
theorem d_T_claims_98 : decode m_T_claims.2.1 98 = .ok (.ifCond .eq (64), 3) := by decide +kernel
theorem d_T_claims_101 : decode m_T_claims.2.1 101 = .ok (.aload_n 0, 1) := by decide +kernel
theorem d_T_claims_102 : decode m_T_claims.2.1 102 = .ok (.getfield 19, 3) := by decide +kernel
theorem d_T_claims_105 : decode m_T_claims.2.1 105 = .ok (.aload 4, 2) := by decide +kernel
theorem d_T_claims_107 : decode m_T_claims.2.1 107 = .ok (.iload 8, 2) := by decide +kernel
theorem d_T_claims_109 : decode m_T_claims.2.1 109 = .ok (.invokevirtual 149, 3) := by decide +kernel
theorem d_T_claims_112 : decode m_T_claims.2.1 112 = .ok (.iload 5, 2) := by decide +kernel
theorem d_T_claims_114 : decode m_T_claims.2.1 114 = .ok (.invokevirtual 152, 3) := by decide +kernel
theorem d_T_claims_117 : decode m_T_claims.2.1 117 = .ok (.istore 9, 2) := by decide +kernel
theorem d_T_claims_119 : decode m_T_claims.2.1 119 = .ok (.iload 9, 2) := by decide +kernel
theorem d_T_claims_121 : decode m_T_claims.2.1 121 = .ok (.ifCond .eq (14), 3) := by decide +kernel
theorem d_T_claims_135 : decode m_T_claims.2.1 135 = .ok (.iload 6, 2) := by decide +kernel
theorem d_T_claims_137 : decode m_T_claims.2.1 137 = .ok (.iload 9, 2) := by decide +kernel
theorem d_T_claims_139 : decode m_T_claims.2.1 139 = .ok (.ior, 1) := by decide +kernel
theorem d_T_claims_140 : decode m_T_claims.2.1 140 = .ok (.istore 6, 2) := by decide +kernel
theorem d_T_claims_142 : decode m_T_claims.2.1 142 = .ok (.iload 5, 2) := by decide +kernel
theorem d_T_claims_144 : decode m_T_claims.2.1 144 = .ok (.iconst 1, 1) := by decide +kernel
theorem d_T_claims_145 : decode m_T_claims.2.1 145 = .ok (.aload 4, 2) := by decide +kernel
theorem d_T_claims_147 : decode m_T_claims.2.1 147 = .ok (.iload 8, 2) := by decide +kernel
theorem d_T_claims_149 : decode m_T_claims.2.1 149 = .ok (.invokevirtual 149, 3) := by decide +kernel
theorem d_T_claims_152 : decode m_T_claims.2.1 152 = .ok (.ishl, 1) := by decide +kernel
theorem d_T_claims_153 : decode m_T_claims.2.1 153 = .ok (.ior, 1) := by decide +kernel
theorem d_T_claims_154 : decode m_T_claims.2.1 154 = .ok (.istore 5, 2) := by decide +kernel
theorem d_T_claims_156 : decode m_T_claims.2.1 156 = .ok (.iinc 8 (1), 3) := by decide +kernel
theorem d_T_claims_159 : decode m_T_claims.2.1 159 = .ok (.goto (-84), 3) := by decide +kernel
theorem d_T_claims_124 : decode m_T_claims.2.1 124 = .ok (.iload 7, 2) := by decide +kernel
theorem d_T_claims_126 : decode m_T_claims.2.1 126 = .ok (.bipush (-2), 2) := by decide +kernel
theorem d_T_claims_128 : decode m_T_claims.2.1 128 = .ok (.if_icmp .ne (7), 3) := by decide +kernel
theorem d_T_claims_131 : decode m_T_claims.2.1 131 = .ok (.iload 8, 2) := by decide +kernel
theorem d_T_claims_133 : decode m_T_claims.2.1 133 = .ok (.istore 7, 2) := by decide +kernel
theorem d_T_happens_0 : decode m_T_happens.2.1 0 = .ok (.iload_n 1, 1) := by decide +kernel
theorem d_T_happens_1 : decode m_T_happens.2.1 1 = .ok (.bipush (6), 2) := by decide +kernel
theorem d_T_happens_3 : decode m_T_happens.2.1 3 = .ok (.invokestatic 72, 3) := by decide +kernel
theorem d_T_happens_6 : decode m_T_happens.2.1 6 = .ok (.ifCond .eq (12), 3) := by decide +kernel
theorem d_T_happens_18 : decode m_T_happens.2.1 18 = .ok (.iconst (-1), 1) := by decide +kernel
theorem d_T_happens_19 : decode m_T_happens.2.1 19 = .ok (.ireturn, 1) := by decide +kernel
theorem d_T_happens_9 : decode m_T_happens.2.1 9 = .ok (.iload_n 2, 1) := by decide +kernel
theorem d_T_happens_10 : decode m_T_happens.2.1 10 = .ok (.bipush (6), 2) := by decide +kernel
theorem d_T_happens_12 : decode m_T_happens.2.1 12 = .ok (.invokestatic 72, 3) := by decide +kernel
theorem d_T_happens_15 : decode m_T_happens.2.1 15 = .ok (.ifCond .ne (5), 3) := by decide +kernel
theorem d_T_happens_20 : decode m_T_happens.2.1 20 = .ok (.aload_n 0, 1) := by decide +kernel
theorem d_T_happens_21 : decode m_T_happens.2.1 21 = .ok (.getfield 67, 3) := by decide +kernel
theorem d_T_happens_24 : decode m_T_happens.2.1 24 = .ok (.iload_n 1, 1) := by decide +kernel
theorem d_T_happens_25 : decode m_T_happens.2.1 25 = .ok (.aaload, 1) := by decide +kernel
theorem d_T_happens_26 : decode m_T_happens.2.1 26 = .ok (.astore_n 3, 1) := by decide +kernel
theorem d_T_happens_27 : decode m_T_happens.2.1 27 = .ok (.aload_n 3, 1) := by decide +kernel
theorem d_T_happens_28 : decode m_T_happens.2.1 28 = .ok (.invokevirtual 84, 3) := by decide +kernel
theorem d_T_happens_31 : decode m_T_happens.2.1 31 = .ok (.ifCond .ne (8), 3) := by decide +kernel
theorem d_T_happens_34 : decode m_T_happens.2.1 34 = .ok (.aload_n 3, 1) := by decide +kernel
theorem d_T_happens_35 : decode m_T_happens.2.1 35 = .ok (.invokevirtual 146, 3) := by decide +kernel
theorem d_T_happens_38 : decode m_T_happens.2.1 38 = .ok (.ireturn, 1) := by decide +kernel
theorem d_T_happens_39 : decode m_T_happens.2.1 39 = .ok (.aload_n 0, 1) := by decide +kernel
theorem d_T_happens_40 : decode m_T_happens.2.1 40 = .ok (.getfield 19, 3) := by decide +kernel
theorem d_T_happens_43 : decode m_T_happens.2.1 43 = .ok (.aload_n 0, 1) := by decide +kernel
theorem d_T_happens_44 : decode m_T_happens.2.1 44 = .ok (.getfield 10, 3) := by decide +kernel
theorem d_T_happens_47 : decode m_T_happens.2.1 47 = .ok (.invokevirtual 132, 3) := by decide +kernel
theorem d_T_happens_50 : decode m_T_happens.2.1 50 = .ok (.iconst 0, 1) := by decide +kernel
theorem d_T_happens_51 : decode m_T_happens.2.1 51 = .ok (.istore 4, 2) := by decide +kernel
theorem d_T_happens_53 : decode m_T_happens.2.1 53 = .ok (.iconst 0, 1) := by decide +kernel
theorem d_T_happens_54 : decode m_T_happens.2.1 54 = .ok (.istore 5, 2) := by decide +kernel
theorem d_T_happens_56 : decode m_T_happens.2.1 56 = .ok (.iload 5, 2) := by decide +kernel
theorem d_T_happens_58 : decode m_T_happens.2.1 58 = .ok (.bipush (40), 2) := by decide +kernel
theorem d_T_happens_60 : decode m_T_happens.2.1 60 = .ok (.if_icmp .ge (68), 3) := by decide +kernel
theorem d_T_happens_128 : decode m_T_happens.2.1 128 = .ok (.bipush (-2), 2) := by decide +kernel
theorem d_T_happens_130 : decode m_T_happens.2.1 130 = .ok (.ireturn, 1) := by decide +kernel
theorem d_T_happens_63 : decode m_T_happens.2.1 63 = .ok (.aload_n 3, 1) := by decide +kernel
theorem d_T_happens_64 : decode m_T_happens.2.1 64 = .ok (.iload 5, 2) := by decide +kernel
theorem d_T_happens_66 : decode m_T_happens.2.1 66 = .ok (.invokevirtual 149, 3) := by decide +kernel
theorem d_T_happens_69 : decode m_T_happens.2.1 69 = .ok (.aload_n 0, 1) := by decide +kernel
theorem d_T_happens_70 : decode m_T_happens.2.1 70 = .ok (.getfield 10, 3) := by decide +kernel
theorem d_T_happens_73 : decode m_T_happens.2.1 73 = .ok (.getfield 126, 3) := by decide +kernel
theorem d_T_happens_76 : decode m_T_happens.2.1 76 = .ok (.invokestatic 72, 3) := by decide +kernel
theorem d_T_happens_79 : decode m_T_happens.2.1 79 = .ok (.ifCond .eq (49), 3) := by decide +kernel
theorem d_T_happens_82 : decode m_T_happens.2.1 82 = .ok (.aload_n 0, 1) := by decide +kernel
theorem d_T_happens_83 : decode m_T_happens.2.1 83 = .ok (.getfield 19, 3) := by decide +kernel
theorem d_T_happens_86 : decode m_T_happens.2.1 86 = .ok (.aload_n 3, 1) := by decide +kernel
theorem d_T_happens_87 : decode m_T_happens.2.1 87 = .ok (.iload 5, 2) := by decide +kernel
theorem d_T_happens_89 : decode m_T_happens.2.1 89 = .ok (.invokevirtual 149, 3) := by decide +kernel
theorem d_T_happens_92 : decode m_T_happens.2.1 92 = .ok (.iload 4, 2) := by decide +kernel
theorem d_T_happens_94 : decode m_T_happens.2.1 94 = .ok (.invokevirtual 152, 3) := by decide +kernel
theorem d_T_happens_97 : decode m_T_happens.2.1 97 = .ok (.iload_n 2, 1) := by decide +kernel
theorem d_T_happens_98 : decode m_T_happens.2.1 98 = .ok (.invokestatic 160, 3) := by decide +kernel
theorem d_T_happens_101 : decode m_T_happens.2.1 101 = .ok (.ifCond .eq (8), 3) := by decide +kernel
theorem d_T_happens_109 : decode m_T_happens.2.1 109 = .ok (.iload 4, 2) := by decide +kernel
theorem d_T_happens_111 : decode m_T_happens.2.1 111 = .ok (.iconst 1, 1) := by decide +kernel
theorem d_T_happens_112 : decode m_T_happens.2.1 112 = .ok (.aload_n 3, 1) := by decide +kernel
theorem d_T_happens_113 : decode m_T_happens.2.1 113 = .ok (.iload 5, 2) := by decide +kernel
theorem d_T_happens_115 : decode m_T_happens.2.1 115 = .ok (.invokevirtual 149, 3) := by decide +kernel
theorem d_T_happens_118 : decode m_T_happens.2.1 118 = .ok (.ishl, 1) := by decide +kernel
theorem d_T_happens_119 : decode m_T_happens.2.1 119 = .ok (.ior, 1) := by decide +kernel
theorem d_T_happens_120 : decode m_T_happens.2.1 120 = .ok (.istore 4, 2) := by decide +kernel
theorem d_T_happens_122 : decode m_T_happens.2.1 122 = .ok (.iinc 5 (1), 3) := by decide +kernel
theorem d_T_happens_125 : decode m_T_happens.2.1 125 = .ok (.goto (-69), 3) := by decide +kernel
theorem d_T_happens_104 : decode m_T_happens.2.1 104 = .ok (.iload 5, 2) := by decide +kernel
theorem d_T_happens_106 : decode m_T_happens.2.1 106 = .ok (.iconst 1, 1) := by decide +kernel
theorem d_T_happens_107 : decode m_T_happens.2.1 107 = .ok (.iadd, 1) := by decide +kernel
theorem d_T_happens_108 : decode m_T_happens.2.1 108 = .ok (.ireturn, 1) := by decide +kernel
theorem d_Br_begin_0 : decode m_Br_begin.2.1 0 = .ok (.aload_n 0, 1) := by decide +kernel
theorem d_Br_begin_1 : decode m_Br_begin.2.1 1 = .ok (.getfield 12, 3) := by decide +kernel
theorem d_Br_begin_4 : decode m_Br_begin.2.1 4 = .ok (.aload_n 1, 1) := by decide +kernel
theorem d_Br_begin_5 : decode m_Br_begin.2.1 5 = .ok (.invokevirtual 22, 3) := by decide +kernel
theorem d_Br_begin_8 : decode m_Br_begin.2.1 8 = .ok (.aload_n 0, 1) := by decide +kernel
theorem d_Br_begin_9 : decode m_Br_begin.2.1 9 = .ok (.iconst 0, 1) := by decide +kernel
theorem d_Br_begin_10 : decode m_Br_begin.2.1 10 = .ok (.putfield 26, 3) := by decide +kernel
theorem d_Br_begin_13 : decode m_Br_begin.2.1 13 = .ok (.iconst 0, 1) := by decide +kernel
theorem d_Br_begin_14 : decode m_Br_begin.2.1 14 = .ok (.istore_n 2, 1) := by decide +kernel
theorem d_Br_begin_15 : decode m_Br_begin.2.1 15 = .ok (.iload_n 2, 1) := by decide +kernel
theorem d_Br_begin_16 : decode m_Br_begin.2.1 16 = .ok (.aload_n 0, 1) := by decide +kernel
theorem d_Br_begin_17 : decode m_Br_begin.2.1 17 = .ok (.getfield 12, 3) := by decide +kernel
theorem d_Br_begin_20 : decode m_Br_begin.2.1 20 = .ok (.getfield 30, 3) := by decide +kernel
theorem d_Br_begin_23 : decode m_Br_begin.2.1 23 = .ok (.if_icmp .ge (46), 3) := by decide +kernel
theorem d_Br_begin_69 : decode m_Br_begin.2.1 69 = .ok (.return_, 1) := by decide +kernel
theorem d_Br_begin_26 : decode m_Br_begin.2.1 26 = .ok (.aload_n 0, 1) := by decide +kernel
theorem d_Br_begin_27 : decode m_Br_begin.2.1 27 = .ok (.getfield 18, 3) := by decide +kernel
theorem d_Br_begin_30 : decode m_Br_begin.2.1 30 = .ok (.iload_n 2, 1) := by decide +kernel
theorem d_Br_begin_31 : decode m_Br_begin.2.1 31 = .ok (.aload_n 1, 1) := by decide +kernel
theorem d_Br_begin_32 : decode m_Br_begin.2.1 32 = .ok (.getfield 33, 3) := by decide +kernel
theorem d_Br_begin_35 : decode m_Br_begin.2.1 35 = .ok (.iload_n 2, 1) := by decide +kernel
theorem d_Br_begin_36 : decode m_Br_begin.2.1 36 = .ok (.iaload, 1) := by decide +kernel
theorem d_Br_begin_37 : decode m_Br_begin.2.1 37 = .ok (.iastore, 1) := by decide +kernel
theorem d_Br_begin_38 : decode m_Br_begin.2.1 38 = .ok (.aload_n 0, 1) := by decide +kernel
theorem d_Br_begin_39 : decode m_Br_begin.2.1 39 = .ok (.dup, 1) := by decide +kernel
theorem d_Br_begin_40 : decode m_Br_begin.2.1 40 = .ok (.getfield 26, 3) := by decide +kernel
theorem d_Br_begin_43 : decode m_Br_begin.2.1 43 = .ok (.aload_n 1, 1) := by decide +kernel
theorem d_Br_begin_44 : decode m_Br_begin.2.1 44 = .ok (.getfield 36, 3) := by decide +kernel
theorem d_Br_begin_47 : decode m_Br_begin.2.1 47 = .ok (.iload_n 2, 1) := by decide +kernel
theorem d_Br_begin_48 : decode m_Br_begin.2.1 48 = .ok (.iaload, 1) := by decide +kernel
theorem d_Br_begin_49 : decode m_Br_begin.2.1 49 = .ok (.ifCond .ge (9), 3) := by decide +kernel
theorem d_Br_begin_58 : decode m_Br_begin.2.1 58 = .ok (.iconst 0, 1) := by decide +kernel
theorem d_Br_begin_59 : decode m_Br_begin.2.1 59 = .ok (.ior, 1) := by decide +kernel
theorem d_Br_begin_60 : decode m_Br_begin.2.1 60 = .ok (.putfield 26, 3) := by decide +kernel
theorem d_Br_begin_63 : decode m_Br_begin.2.1 63 = .ok (.iinc 2 (1), 3) := by decide +kernel
theorem d_Br_begin_66 : decode m_Br_begin.2.1 66 = .ok (.goto (-51), 3) := by decide +kernel
theorem d_Br_begin_52 : decode m_Br_begin.2.1 52 = .ok (.iconst 1, 1) := by decide +kernel
theorem d_Br_begin_53 : decode m_Br_begin.2.1 53 = .ok (.iload_n 2, 1) := by decide +kernel
theorem d_Br_begin_54 : decode m_Br_begin.2.1 54 = .ok (.ishl, 1) := by decide +kernel
theorem d_Br_begin_55 : decode m_Br_begin.2.1 55 = .ok (.goto (4), 3) := by decide +kernel
theorem d_Br_areMates_0 : decode m_Br_areMates.2.1 0 = .ok (.iload_n 1, 1) := by decide +kernel
theorem d_Br_areMates_1 : decode m_Br_areMates.2.1 1 = .ok (.bipush (10), 2) := by decide +kernel
theorem d_Br_areMates_3 : decode m_Br_areMates.2.1 3 = .ok (.idiv, 1) := by decide +kernel
theorem d_Br_areMates_4 : decode m_Br_areMates.2.1 4 = .ok (.istore_n 2, 1) := by decide +kernel
theorem d_Br_areMates_5 : decode m_Br_areMates.2.1 5 = .ok (.iload_n 1, 1) := by decide +kernel
theorem d_Br_areMates_6 : decode m_Br_areMates.2.1 6 = .ok (.bipush (10), 2) := by decide +kernel
theorem d_Br_areMates_8 : decode m_Br_areMates.2.1 8 = .ok (.irem, 1) := by decide +kernel
theorem d_Br_areMates_9 : decode m_Br_areMates.2.1 9 = .ok (.istore_n 3, 1) := by decide +kernel
theorem d_Br_areMates_10 : decode m_Br_areMates.2.1 10 = .ok (.iload_n 1, 1) := by decide +kernel
theorem d_Br_areMates_11 : decode m_Br_areMates.2.1 11 = .ok (.ifCond .lt (44), 3) := by decide +kernel
theorem d_Br_areMates_55 : decode m_Br_areMates.2.1 55 = .ok (.iconst 0, 1) := by decide +kernel
theorem d_Br_areMates_56 : decode m_Br_areMates.2.1 56 = .ok (.ireturn, 1) := by decide +kernel
theorem d_Br_areMates_14 : decode m_Br_areMates.2.1 14 = .ok (.iload_n 2, 1) := by decide +kernel
theorem d_Br_areMates_15 : decode m_Br_areMates.2.1 15 = .ok (.iload_n 3, 1) := by decide +kernel
theorem d_Br_areMates_16 : decode m_Br_areMates.2.1 16 = .ok (.if_icmp .ge (39), 3) := by decide +kernel
theorem d_Br_areMates_19 : decode m_Br_areMates.2.1 19 = .ok (.iload_n 3, 1) := by decide +kernel
theorem d_Br_areMates_20 : decode m_Br_areMates.2.1 20 = .ok (.aload_n 0, 1) := by decide +kernel
theorem d_Br_areMates_21 : decode m_Br_areMates.2.1 21 = .ok (.getfield 12, 3) := by decide +kernel
theorem d_Br_areMates_24 : decode m_Br_areMates.2.1 24 = .ok (.getfield 30, 3) := by decide +kernel
theorem d_Br_areMates_27 : decode m_Br_areMates.2.1 27 = .ok (.if_icmp .ge (28), 3) := by decide +kernel
theorem d_Br_areMates_30 : decode m_Br_areMates.2.1 30 = .ok (.aload_n 0, 1) := by decide +kernel
theorem d_Br_areMates_31 : decode m_Br_areMates.2.1 31 = .ok (.getfield 12, 3) := by decide +kernel
theorem d_Br_areMates_34 : decode m_Br_areMates.2.1 34 = .ok (.getfield 39, 3) := by decide +kernel
theorem d_Br_areMates_37 : decode m_Br_areMates.2.1 37 = .ok (.iload_n 2, 1) := by decide +kernel
theorem d_Br_areMates_38 : decode m_Br_areMates.2.1 38 = .ok (.iaload, 1) := by decide +kernel
theorem d_Br_areMates_39 : decode m_Br_areMates.2.1 39 = .ok (.aload_n 0, 1) := by decide +kernel
theorem d_Br_areMates_40 : decode m_Br_areMates.2.1 40 = .ok (.getfield 12, 3) := by decide +kernel
theorem d_Br_areMates_43 : decode m_Br_areMates.2.1 43 = .ok (.getfield 39, 3) := by decide +kernel
theorem d_Br_areMates_46 : decode m_Br_areMates.2.1 46 = .ok (.iload_n 3, 1) := by decide +kernel
theorem d_Br_areMates_47 : decode m_Br_areMates.2.1 47 = .ok (.iaload, 1) := by decide +kernel
theorem d_Br_areMates_48 : decode m_Br_areMates.2.1 48 = .ok (.if_icmp .eq (7), 3) := by decide +kernel
theorem d_Br_areMates_51 : decode m_Br_areMates.2.1 51 = .ok (.iconst 1, 1) := by decide +kernel
theorem d_Br_areMates_52 : decode m_Br_areMates.2.1 52 = .ok (.goto (4), 3) := by decide +kernel
theorem d_Br_costOfOne_0 : decode m_Br_costOfOne.2.1 0 = .ok (.aload_n 0, 1) := by decide +kernel
theorem d_Br_costOfOne_1 : decode m_Br_costOfOne.2.1 1 = .ok (.getfield 12, 3) := by decide +kernel
theorem d_Br_costOfOne_4 : decode m_Br_costOfOne.2.1 4 = .ok (.getfield 42, 3) := by decide +kernel
theorem d_Br_costOfOne_7 : decode m_Br_costOfOne.2.1 7 = .ok (.iload_n 1, 1) := by decide +kernel
theorem d_Br_costOfOne_8 : decode m_Br_costOfOne.2.1 8 = .ok (.iaload, 1) := by decide +kernel
theorem d_Br_costOfOne_9 : decode m_Br_costOfOne.2.1 9 = .ok (.iload_n 2, 1) := by decide +kernel
theorem d_Br_costOfOne_10 : decode m_Br_costOfOne.2.1 10 = .ok (.if_icmp .ne (7), 3) := by decide +kernel
theorem d_Br_costOfOne_13 : decode m_Br_costOfOne.2.1 13 = .ok (.iconst 0, 1) := by decide +kernel
theorem d_Br_costOfOne_14 : decode m_Br_costOfOne.2.1 14 = .ok (.goto (9), 3) := by decide +kernel
theorem d_Br_costOfOne_23 : decode m_Br_costOfOne.2.1 23 = .ok (.ireturn, 1) := by decide +kernel
theorem d_Br_costOfOne_17 : decode m_Br_costOfOne.2.1 17 = .ok (.aload_n 0, 1) := by decide +kernel
theorem d_Br_costOfOne_18 : decode m_Br_costOfOne.2.1 18 = .ok (.getfield 18, 3) := by decide +kernel
theorem d_Br_costOfOne_21 : decode m_Br_costOfOne.2.1 21 = .ok (.iload_n 1, 1) := by decide +kernel
theorem d_Br_costOfOne_22 : decode m_Br_costOfOne.2.1 22 = .ok (.iaload, 1) := by decide +kernel
theorem d_Br_costOfPair_0 : decode m_Br_costOfPair.2.1 0 = .ok (.aload_n 0, 1) := by decide +kernel
theorem d_Br_costOfPair_1 : decode m_Br_costOfPair.2.1 1 = .ok (.iload_n 1, 1) := by decide +kernel
theorem d_Br_costOfPair_2 : decode m_Br_costOfPair.2.1 2 = .ok (.bipush (10), 2) := by decide +kernel
theorem d_Br_costOfPair_4 : decode m_Br_costOfPair.2.1 4 = .ok (.idiv, 1) := by decide +kernel
theorem d_Br_costOfPair_5 : decode m_Br_costOfPair.2.1 5 = .ok (.iload_n 2, 1) := by decide +kernel
theorem d_Br_costOfPair_6 : decode m_Br_costOfPair.2.1 6 = .ok (.invokevirtual 45, 3) := by decide +kernel
theorem d_Br_costOfPair_9 : decode m_Br_costOfPair.2.1 9 = .ok (.aload_n 0, 1) := by decide +kernel
theorem d_Br_costOfPair_10 : decode m_Br_costOfPair.2.1 10 = .ok (.iload_n 1, 1) := by decide +kernel
theorem d_Br_costOfPair_11 : decode m_Br_costOfPair.2.1 11 = .ok (.bipush (10), 2) := by decide +kernel
theorem d_Br_costOfPair_13 : decode m_Br_costOfPair.2.1 13 = .ok (.irem, 1) := by decide +kernel
theorem d_Br_costOfPair_14 : decode m_Br_costOfPair.2.1 14 = .ok (.iload_n 2, 1) := by decide +kernel
theorem d_Br_costOfPair_15 : decode m_Br_costOfPair.2.1 15 = .ok (.invokevirtual 45, 3) := by decide +kernel
theorem d_Br_costOfPair_18 : decode m_Br_costOfPair.2.1 18 = .ok (.iadd, 1) := by decide +kernel
theorem d_Br_costOfPair_19 : decode m_Br_costOfPair.2.1 19 = .ok (.ireturn, 1) := by decide +kernel
theorem d_Br_findPair_0 : decode m_Br_findPair.2.1 0 = .ok (.aload_n 0, 1) := by decide +kernel
theorem d_Br_findPair_1 : decode m_Br_findPair.2.1 1 = .ok (.ldc 49, 2) := by decide +kernel
theorem d_Br_findPair_3 : decode m_Br_findPair.2.1 3 = .ok (.putfield 50, 3) := by decide +kernel
theorem d_Br_findPair_6 : decode m_Br_findPair.2.1 6 = .ok (.iconst 0, 1) := by decide +kernel
theorem d_Br_findPair_7 : decode m_Br_findPair.2.1 7 = .ok (.istore_n 2, 1) := by decide +kernel
theorem d_Br_findPair_8 : decode m_Br_findPair.2.1 8 = .ok (.iload_n 2, 1) := by decide +kernel
theorem d_Br_findPair_9 : decode m_Br_findPair.2.1 9 = .ok (.bipush (100), 2) := by decide +kernel
theorem d_Br_findPair_11 : decode m_Br_findPair.2.1 11 = .ok (.if_icmp .ge (45), 3) := by decide +kernel
theorem d_Br_findPair_56 : decode m_Br_findPair.2.1 56 = .ok (.aload_n 0, 1) := by decide +kernel
theorem d_Br_findPair_57 : decode m_Br_findPair.2.1 57 = .ok (.getfield 50, 3) := by decide +kernel
theorem d_Br_findPair_60 : decode m_Br_findPair.2.1 60 = .ok (.ldc 49, 2) := by decide +kernel
theorem d_Br_findPair_62 : decode m_Br_findPair.2.1 62 = .ok (.if_icmp .ge (7), 3) := by decide +kernel
theorem d_Br_findPair_69 : decode m_Br_findPair.2.1 69 = .ok (.iconst 0, 1) := by decide +kernel
theorem d_Br_findPair_70 : decode m_Br_findPair.2.1 70 = .ok (.ireturn, 1) := by decide +kernel
theorem d_Br_findPair_65 : decode m_Br_findPair.2.1 65 = .ok (.iconst 1, 1) := by decide +kernel
theorem d_Br_findPair_66 : decode m_Br_findPair.2.1 66 = .ok (.goto (4), 3) := by decide +kernel
theorem d_Br_findPair_14 : decode m_Br_findPair.2.1 14 = .ok (.aload_n 0, 1) := by decide +kernel
theorem d_Br_findPair_15 : decode m_Br_findPair.2.1 15 = .ok (.iload_n 2, 1) := by decide +kernel
theorem d_Br_findPair_16 : decode m_Br_findPair.2.1 16 = .ok (.invokevirtual 53, 3) := by decide +kernel
theorem d_Br_findPair_19 : decode m_Br_findPair.2.1 19 = .ok (.ifCond .eq (31), 3) := by decide +kernel
theorem d_Br_findPair_50 : decode m_Br_findPair.2.1 50 = .ok (.iinc 2 (1), 3) := by decide +kernel
theorem d_Br_findPair_53 : decode m_Br_findPair.2.1 53 = .ok (.goto (-45), 3) := by decide +kernel
theorem d_Br_findPair_22 : decode m_Br_findPair.2.1 22 = .ok (.aload_n 0, 1) := by decide +kernel
theorem d_Br_findPair_23 : decode m_Br_findPair.2.1 23 = .ok (.iload_n 2, 1) := by decide +kernel
theorem d_Br_findPair_24 : decode m_Br_findPair.2.1 24 = .ok (.iload_n 1, 1) := by decide +kernel
theorem d_Br_findPair_25 : decode m_Br_findPair.2.1 25 = .ok (.invokevirtual 57, 3) := by decide +kernel
theorem d_Br_findPair_28 : decode m_Br_findPair.2.1 28 = .ok (.aload_n 0, 1) := by decide +kernel
theorem d_Br_findPair_29 : decode m_Br_findPair.2.1 29 = .ok (.getfield 50, 3) := by decide +kernel
theorem d_Br_findPair_32 : decode m_Br_findPair.2.1 32 = .ok (.if_icmp .ge (18), 3) := by decide +kernel
theorem d_Br_findPair_35 : decode m_Br_findPair.2.1 35 = .ok (.aload_n 0, 1) := by decide +kernel
theorem d_Br_findPair_36 : decode m_Br_findPair.2.1 36 = .ok (.aload_n 0, 1) := by decide +kernel
theorem d_Br_findPair_37 : decode m_Br_findPair.2.1 37 = .ok (.iload_n 2, 1) := by decide +kernel
theorem d_Br_findPair_38 : decode m_Br_findPair.2.1 38 = .ok (.iload_n 1, 1) := by decide +kernel
theorem d_Br_findPair_39 : decode m_Br_findPair.2.1 39 = .ok (.invokevirtual 57, 3) := by decide +kernel
theorem d_Br_findPair_42 : decode m_Br_findPair.2.1 42 = .ok (.putfield 50, 3) := by decide +kernel
theorem d_Br_findPair_45 : decode m_Br_findPair.2.1 45 = .ok (.aload_n 0, 1) := by decide +kernel
theorem d_Br_findPair_46 : decode m_Br_findPair.2.1 46 = .ok (.iload_n 2, 1) := by decide +kernel
theorem d_Br_findPair_47 : decode m_Br_findPair.2.1 47 = .ok (.putfield 60, 3) := by decide +kernel
theorem d_T_pay_0 : decode m_T_pay.2.1 0 = .ok (.iload_n 1, 1) := by decide +kernel
theorem d_T_pay_1 : decode m_T_pay.2.1 1 = .ok (.bipush (6), 2) := by decide +kernel
theorem d_T_pay_3 : decode m_T_pay.2.1 3 = .ok (.invokestatic 72, 3) := by decide +kernel
theorem d_T_pay_6 : decode m_T_pay.2.1 6 = .ok (.ifCond .eq (11), 3) := by decide +kernel
theorem d_T_pay_17 : decode m_T_pay.2.1 17 = .ok (.iconst (-1), 1) := by decide +kernel
theorem d_T_pay_18 : decode m_T_pay.2.1 18 = .ok (.ireturn, 1) := by decide +kernel
theorem d_T_pay_9 : decode m_T_pay.2.1 9 = .ok (.iload_n 2, 1) := by decide +kernel
theorem d_T_pay_10 : decode m_T_pay.2.1 10 = .ok (.iconst 2, 1) := by decide +kernel
theorem d_T_pay_11 : decode m_T_pay.2.1 11 = .ok (.invokestatic 72, 3) := by decide +kernel
theorem d_T_pay_14 : decode m_T_pay.2.1 14 = .ok (.ifCond .ne (5), 3) := by decide +kernel
theorem d_T_pay_19 : decode m_T_pay.2.1 19 = .ok (.aload_n 0, 1) := by decide +kernel
theorem d_T_pay_20 : decode m_T_pay.2.1 20 = .ok (.getfield 26, 3) := by decide +kernel
theorem d_T_pay_23 : decode m_T_pay.2.1 23 = .ok (.aload_n 0, 1) := by decide +kernel
theorem d_T_pay_24 : decode m_T_pay.2.1 24 = .ok (.getfield 10, 3) := by decide +kernel
theorem d_T_pay_27 : decode m_T_pay.2.1 27 = .ok (.invokevirtual 161, 3) := by decide +kernel
theorem d_T_pay_30 : decode m_T_pay.2.1 30 = .ok (.aload_n 0, 1) := by decide +kernel
theorem d_T_pay_31 : decode m_T_pay.2.1 31 = .ok (.getfield 26, 3) := by decide +kernel
theorem d_T_pay_34 : decode m_T_pay.2.1 34 = .ok (.iload_n 1, 1) := by decide +kernel
theorem d_T_pay_35 : decode m_T_pay.2.1 35 = .ok (.invokevirtual 164, 3) := by decide +kernel
theorem d_T_pay_38 : decode m_T_pay.2.1 38 = .ok (.ifCond .ne (6), 3) := by decide +kernel
theorem d_T_pay_41 : decode m_T_pay.2.1 41 = .ok (.bipush (-2), 2) := by decide +kernel
theorem d_T_pay_43 : decode m_T_pay.2.1 43 = .ok (.ireturn, 1) := by decide +kernel
theorem d_T_pay_44 : decode m_T_pay.2.1 44 = .ok (.iload_n 2, 1) := by decide +kernel
theorem d_T_pay_45 : decode m_T_pay.2.1 45 = .ok (.ifCond .ne (13), 3) := by decide +kernel
theorem d_T_pay_48 : decode m_T_pay.2.1 48 = .ok (.aload_n 0, 1) := by decide +kernel
theorem d_T_pay_49 : decode m_T_pay.2.1 49 = .ok (.getfield 26, 3) := by decide +kernel
theorem d_T_pay_52 : decode m_T_pay.2.1 52 = .ok (.getfield 168, 3) := by decide +kernel
theorem d_T_pay_55 : decode m_T_pay.2.1 55 = .ok (.goto (10), 3) := by decide +kernel
theorem d_T_pay_65 : decode m_T_pay.2.1 65 = .ok (.ireturn, 1) := by decide +kernel
theorem d_T_pay_58 : decode m_T_pay.2.1 58 = .ok (.aload_n 0, 1) := by decide +kernel
theorem d_T_pay_59 : decode m_T_pay.2.1 59 = .ok (.getfield 26, 3) := by decide +kernel
theorem d_T_pay_62 : decode m_T_pay.2.1 62 = .ok (.getfield 171, 3) := by decide +kernel
theorem d_T_areTwo_0 : decode m_T_areTwo.2.1 0 = .ok (.iload_n 0, 1) := by decide +kernel
theorem d_T_areTwo_1 : decode m_T_areTwo.2.1 1 = .ok (.ifCond .lt (23), 3) := by decide +kernel
theorem d_T_areTwo_24 : decode m_T_areTwo.2.1 24 = .ok (.iconst 0, 1) := by decide +kernel
theorem d_T_areTwo_25 : decode m_T_areTwo.2.1 25 = .ok (.ireturn, 1) := by decide +kernel
theorem d_T_areTwo_4 : decode m_T_areTwo.2.1 4 = .ok (.iload_n 0, 1) := by decide +kernel
theorem d_T_areTwo_5 : decode m_T_areTwo.2.1 5 = .ok (.bipush (10), 2) := by decide +kernel
theorem d_T_areTwo_7 : decode m_T_areTwo.2.1 7 = .ok (.idiv, 1) := by decide +kernel
theorem d_T_areTwo_8 : decode m_T_areTwo.2.1 8 = .ok (.iload_n 1, 1) := by decide +kernel
theorem d_T_areTwo_9 : decode m_T_areTwo.2.1 9 = .ok (.if_icmp .ge (15), 3) := by decide +kernel
theorem d_T_areTwo_12 : decode m_T_areTwo.2.1 12 = .ok (.iload_n 0, 1) := by decide +kernel
theorem d_T_areTwo_13 : decode m_T_areTwo.2.1 13 = .ok (.bipush (10), 2) := by decide +kernel
theorem d_T_areTwo_15 : decode m_T_areTwo.2.1 15 = .ok (.irem, 1) := by decide +kernel
theorem d_T_areTwo_16 : decode m_T_areTwo.2.1 16 = .ok (.iload_n 1, 1) := by decide +kernel
theorem d_T_areTwo_17 : decode m_T_areTwo.2.1 17 = .ok (.if_icmp .ge (7), 3) := by decide +kernel
theorem d_T_areTwo_20 : decode m_T_areTwo.2.1 20 = .ok (.iconst 1, 1) := by decide +kernel
theorem d_T_areTwo_21 : decode m_T_areTwo.2.1 21 = .ok (.goto (4), 3) := by decide +kernel
theorem d_Br_areApart_0 : decode m_Br_areApart.2.1 0 = .ok (.iload_n 0, 1) := by decide +kernel
theorem d_Br_areApart_1 : decode m_Br_areApart.2.1 1 = .ok (.bipush (10), 2) := by decide +kernel
theorem d_Br_areApart_3 : decode m_Br_areApart.2.1 3 = .ok (.idiv, 1) := by decide +kernel
theorem d_Br_areApart_4 : decode m_Br_areApart.2.1 4 = .ok (.iload_n 1, 1) := by decide +kernel
theorem d_Br_areApart_5 : decode m_Br_areApart.2.1 5 = .ok (.bipush (10), 2) := by decide +kernel
theorem d_Br_areApart_7 : decode m_Br_areApart.2.1 7 = .ok (.idiv, 1) := by decide +kernel
theorem d_Br_areApart_8 : decode m_Br_areApart.2.1 8 = .ok (.if_icmp .eq (40), 3) := by decide +kernel
theorem d_Br_areApart_48 : decode m_Br_areApart.2.1 48 = .ok (.iconst 0, 1) := by decide +kernel
theorem d_Br_areApart_49 : decode m_Br_areApart.2.1 49 = .ok (.ireturn, 1) := by decide +kernel
theorem d_Br_areApart_11 : decode m_Br_areApart.2.1 11 = .ok (.iload_n 0, 1) := by decide +kernel
theorem d_Br_areApart_12 : decode m_Br_areApart.2.1 12 = .ok (.bipush (10), 2) := by decide +kernel
theorem d_Br_areApart_14 : decode m_Br_areApart.2.1 14 = .ok (.idiv, 1) := by decide +kernel
theorem d_Br_areApart_15 : decode m_Br_areApart.2.1 15 = .ok (.iload_n 1, 1) := by decide +kernel
theorem d_Br_areApart_16 : decode m_Br_areApart.2.1 16 = .ok (.bipush (10), 2) := by decide +kernel
theorem d_Br_areApart_18 : decode m_Br_areApart.2.1 18 = .ok (.irem, 1) := by decide +kernel
theorem d_Br_areApart_19 : decode m_Br_areApart.2.1 19 = .ok (.if_icmp .eq (29), 3) := by decide +kernel
theorem d_Br_areApart_22 : decode m_Br_areApart.2.1 22 = .ok (.iload_n 0, 1) := by decide +kernel
theorem d_Br_areApart_23 : decode m_Br_areApart.2.1 23 = .ok (.bipush (10), 2) := by decide +kernel
theorem d_Br_areApart_25 : decode m_Br_areApart.2.1 25 = .ok (.irem, 1) := by decide +kernel
theorem d_Br_areApart_26 : decode m_Br_areApart.2.1 26 = .ok (.iload_n 1, 1) := by decide +kernel
theorem d_Br_areApart_27 : decode m_Br_areApart.2.1 27 = .ok (.bipush (10), 2) := by decide +kernel
theorem d_Br_areApart_29 : decode m_Br_areApart.2.1 29 = .ok (.idiv, 1) := by decide +kernel
theorem d_Br_areApart_30 : decode m_Br_areApart.2.1 30 = .ok (.if_icmp .eq (18), 3) := by decide +kernel
theorem d_Br_areApart_33 : decode m_Br_areApart.2.1 33 = .ok (.iload_n 0, 1) := by decide +kernel
theorem d_Br_areApart_34 : decode m_Br_areApart.2.1 34 = .ok (.bipush (10), 2) := by decide +kernel
theorem d_Br_areApart_36 : decode m_Br_areApart.2.1 36 = .ok (.irem, 1) := by decide +kernel
theorem d_Br_areApart_37 : decode m_Br_areApart.2.1 37 = .ok (.iload_n 1, 1) := by decide +kernel
theorem d_Br_areApart_38 : decode m_Br_areApart.2.1 38 = .ok (.bipush (10), 2) := by decide +kernel
theorem d_Br_areApart_40 : decode m_Br_areApart.2.1 40 = .ok (.irem, 1) := by decide +kernel
theorem d_Br_areApart_41 : decode m_Br_areApart.2.1 41 = .ok (.if_icmp .eq (7), 3) := by decide +kernel
theorem d_Br_areApart_44 : decode m_Br_areApart.2.1 44 = .ok (.iconst 1, 1) := by decide +kernel
theorem d_Br_areApart_45 : decode m_Br_areApart.2.1 45 = .ok (.goto (4), 3) := by decide +kernel
theorem d_Br_findOther_0 : decode m_Br_findOther.2.1 0 = .ok (.iconst 0, 1) := by decide +kernel
theorem d_Br_findOther_1 : decode m_Br_findOther.2.1 1 = .ok (.istore 4, 2) := by decide +kernel
theorem d_Br_findOther_3 : decode m_Br_findOther.2.1 3 = .ok (.iload 4, 2) := by decide +kernel
theorem d_Br_findOther_5 : decode m_Br_findOther.2.1 5 = .ok (.bipush (100), 2) := by decide +kernel
theorem d_Br_findOther_7 : decode m_Br_findOther.2.1 7 = .ok (.if_icmp .ge (67), 3) := by decide +kernel
theorem d_Br_findOther_74 : decode m_Br_findOther.2.1 74 = .ok (.return_, 1) := by decide +kernel
theorem d_Br_findOther_10 : decode m_Br_findOther.2.1 10 = .ok (.aload_n 0, 1) := by decide +kernel
theorem d_Br_findOther_11 : decode m_Br_findOther.2.1 11 = .ok (.iload 4, 2) := by decide +kernel
theorem d_Br_findOther_13 : decode m_Br_findOther.2.1 13 = .ok (.invokevirtual 53, 3) := by decide +kernel
theorem d_Br_findOther_16 : decode m_Br_findOther.2.1 16 = .ok (.ifCond .eq (52), 3) := by decide +kernel
theorem d_Br_findOther_68 : decode m_Br_findOther.2.1 68 = .ok (.iinc 4 (1), 3) := by decide +kernel
theorem d_Br_findOther_71 : decode m_Br_findOther.2.1 71 = .ok (.goto (-68), 3) := by decide +kernel
theorem d_Br_findOther_19 : decode m_Br_findOther.2.1 19 = .ok (.iload_n 1, 1) := by decide +kernel
theorem d_Br_findOther_20 : decode m_Br_findOther.2.1 20 = .ok (.iload 4, 2) := by decide +kernel
theorem d_Br_findOther_22 : decode m_Br_findOther.2.1 22 = .ok (.invokestatic 67, 3) := by decide +kernel
theorem d_Br_findOther_25 : decode m_Br_findOther.2.1 25 = .ok (.ifCond .eq (43), 3) := by decide +kernel
theorem d_Br_findOther_28 : decode m_Br_findOther.2.1 28 = .ok (.iload_n 2, 1) := by decide +kernel
theorem d_Br_findOther_29 : decode m_Br_findOther.2.1 29 = .ok (.aload_n 0, 1) := by decide +kernel
theorem d_Br_findOther_30 : decode m_Br_findOther.2.1 30 = .ok (.iload 4, 2) := by decide +kernel
theorem d_Br_findOther_32 : decode m_Br_findOther.2.1 32 = .ok (.iload_n 3, 1) := by decide +kernel
theorem d_Br_findOther_33 : decode m_Br_findOther.2.1 33 = .ok (.invokevirtual 57, 3) := by decide +kernel
theorem d_Br_findOther_36 : decode m_Br_findOther.2.1 36 = .ok (.iadd, 1) := by decide +kernel
theorem d_Br_findOther_37 : decode m_Br_findOther.2.1 37 = .ok (.aload_n 0, 1) := by decide +kernel
theorem d_Br_findOther_38 : decode m_Br_findOther.2.1 38 = .ok (.getfield 50, 3) := by decide +kernel
theorem d_Br_findOther_41 : decode m_Br_findOther.2.1 41 = .ok (.if_icmp .ge (27), 3) := by decide +kernel
theorem d_Br_findOther_44 : decode m_Br_findOther.2.1 44 = .ok (.aload_n 0, 1) := by decide +kernel
theorem d_Br_findOther_45 : decode m_Br_findOther.2.1 45 = .ok (.iload_n 2, 1) := by decide +kernel
theorem d_Br_findOther_46 : decode m_Br_findOther.2.1 46 = .ok (.aload_n 0, 1) := by decide +kernel
theorem d_Br_findOther_47 : decode m_Br_findOther.2.1 47 = .ok (.iload 4, 2) := by decide +kernel
theorem d_Br_findOther_49 : decode m_Br_findOther.2.1 49 = .ok (.iload_n 3, 1) := by decide +kernel
theorem d_Br_findOther_50 : decode m_Br_findOther.2.1 50 = .ok (.invokevirtual 57, 3) := by decide +kernel
theorem d_Br_findOther_53 : decode m_Br_findOther.2.1 53 = .ok (.iadd, 1) := by decide +kernel
theorem d_Br_findOther_54 : decode m_Br_findOther.2.1 54 = .ok (.putfield 50, 3) := by decide +kernel
theorem d_Br_findOther_57 : decode m_Br_findOther.2.1 57 = .ok (.aload_n 0, 1) := by decide +kernel
theorem d_Br_findOther_58 : decode m_Br_findOther.2.1 58 = .ok (.iload_n 1, 1) := by decide +kernel
theorem d_Br_findOther_59 : decode m_Br_findOther.2.1 59 = .ok (.putfield 60, 3) := by decide +kernel
theorem d_Br_findOther_62 : decode m_Br_findOther.2.1 62 = .ok (.aload_n 0, 1) := by decide +kernel
theorem d_Br_findOther_63 : decode m_Br_findOther.2.1 63 = .ok (.iload 4, 2) := by decide +kernel
theorem d_Br_findOther_65 : decode m_Br_findOther.2.1 65 = .ok (.putfield 71, 3) := by decide +kernel
theorem d_Br_findTwoPairs_0 : decode m_Br_findTwoPairs.2.1 0 = .ok (.aload_n 0, 1) := by decide +kernel
theorem d_Br_findTwoPairs_1 : decode m_Br_findTwoPairs.2.1 1 = .ok (.ldc 49, 2) := by decide +kernel
theorem d_Br_findTwoPairs_3 : decode m_Br_findTwoPairs.2.1 3 = .ok (.putfield 50, 3) := by decide +kernel
theorem d_Br_findTwoPairs_6 : decode m_Br_findTwoPairs.2.1 6 = .ok (.iconst 0, 1) := by decide +kernel
theorem d_Br_findTwoPairs_7 : decode m_Br_findTwoPairs.2.1 7 = .ok (.istore_n 3, 1) := by decide +kernel
theorem d_Br_findTwoPairs_8 : decode m_Br_findTwoPairs.2.1 8 = .ok (.iload_n 3, 1) := by decide +kernel
theorem d_Br_findTwoPairs_9 : decode m_Br_findTwoPairs.2.1 9 = .ok (.bipush (100), 2) := by decide +kernel
theorem d_Br_findTwoPairs_11 : decode m_Br_findTwoPairs.2.1 11 = .ok (.if_icmp .ge (29), 3) := by decide +kernel
theorem d_Br_findTwoPairs_40 : decode m_Br_findTwoPairs.2.1 40 = .ok (.aload_n 0, 1) := by decide +kernel
theorem d_Br_findTwoPairs_41 : decode m_Br_findTwoPairs.2.1 41 = .ok (.getfield 50, 3) := by decide +kernel
theorem d_Br_findTwoPairs_44 : decode m_Br_findTwoPairs.2.1 44 = .ok (.ldc 49, 2) := by decide +kernel
theorem d_Br_findTwoPairs_46 : decode m_Br_findTwoPairs.2.1 46 = .ok (.if_icmp .ge (7), 3) := by decide +kernel
theorem d_Br_findTwoPairs_53 : decode m_Br_findTwoPairs.2.1 53 = .ok (.iconst 0, 1) := by decide +kernel
theorem d_Br_findTwoPairs_54 : decode m_Br_findTwoPairs.2.1 54 = .ok (.ireturn, 1) := by decide +kernel
theorem d_Br_findTwoPairs_49 : decode m_Br_findTwoPairs.2.1 49 = .ok (.iconst 1, 1) := by decide +kernel
theorem d_Br_findTwoPairs_50 : decode m_Br_findTwoPairs.2.1 50 = .ok (.goto (4), 3) := by decide +kernel
theorem d_Br_findTwoPairs_14 : decode m_Br_findTwoPairs.2.1 14 = .ok (.aload_n 0, 1) := by decide +kernel
theorem d_Br_findTwoPairs_15 : decode m_Br_findTwoPairs.2.1 15 = .ok (.iload_n 3, 1) := by decide +kernel
theorem d_Br_findTwoPairs_16 : decode m_Br_findTwoPairs.2.1 16 = .ok (.invokevirtual 53, 3) := by decide +kernel
theorem d_Br_findTwoPairs_19 : decode m_Br_findTwoPairs.2.1 19 = .ok (.ifCond .eq (15), 3) := by decide +kernel
theorem d_Br_findTwoPairs_34 : decode m_Br_findTwoPairs.2.1 34 = .ok (.iinc 3 (1), 3) := by decide +kernel
theorem d_Br_findTwoPairs_37 : decode m_Br_findTwoPairs.2.1 37 = .ok (.goto (-29), 3) := by decide +kernel
theorem d_Br_findTwoPairs_22 : decode m_Br_findTwoPairs.2.1 22 = .ok (.aload_n 0, 1) := by decide +kernel
theorem d_Br_findTwoPairs_23 : decode m_Br_findTwoPairs.2.1 23 = .ok (.iload_n 3, 1) := by decide +kernel
theorem d_Br_findTwoPairs_24 : decode m_Br_findTwoPairs.2.1 24 = .ok (.aload_n 0, 1) := by decide +kernel
theorem d_Br_findTwoPairs_25 : decode m_Br_findTwoPairs.2.1 25 = .ok (.iload_n 3, 1) := by decide +kernel
theorem d_Br_findTwoPairs_26 : decode m_Br_findTwoPairs.2.1 26 = .ok (.iload_n 1, 1) := by decide +kernel
theorem d_Br_findTwoPairs_27 : decode m_Br_findTwoPairs.2.1 27 = .ok (.invokevirtual 57, 3) := by decide +kernel
theorem d_Br_findTwoPairs_30 : decode m_Br_findTwoPairs.2.1 30 = .ok (.iload_n 2, 1) := by decide +kernel
theorem d_Br_findTwoPairs_31 : decode m_Br_findTwoPairs.2.1 31 = .ok (.invokevirtual 63, 3) := by decide +kernel
theorem d_T_payBoth_0 : decode m_T_payBoth.2.1 0 = .ok (.iload_n 1, 1) := by decide +kernel
theorem d_T_payBoth_1 : decode m_T_payBoth.2.1 1 = .ok (.bipush (6), 2) := by decide +kernel
theorem d_T_payBoth_3 : decode m_T_payBoth.2.1 3 = .ok (.invokestatic 174, 3) := by decide +kernel
theorem d_T_payBoth_6 : decode m_T_payBoth.2.1 6 = .ok (.ifCond .eq (22), 3) := by decide +kernel
theorem d_T_payBoth_28 : decode m_T_payBoth.2.1 28 = .ok (.iconst (-1), 1) := by decide +kernel
theorem d_T_payBoth_29 : decode m_T_payBoth.2.1 29 = .ok (.ireturn, 1) := by decide +kernel
theorem d_T_payBoth_9 : decode m_T_payBoth.2.1 9 = .ok (.iload_n 1, 1) := by decide +kernel
theorem d_T_payBoth_10 : decode m_T_payBoth.2.1 10 = .ok (.bipush (10), 2) := by decide +kernel
theorem d_T_payBoth_12 : decode m_T_payBoth.2.1 12 = .ok (.idiv, 1) := by decide +kernel
theorem d_T_payBoth_13 : decode m_T_payBoth.2.1 13 = .ok (.iload_n 1, 1) := by decide +kernel
theorem d_T_payBoth_14 : decode m_T_payBoth.2.1 14 = .ok (.bipush (10), 2) := by decide +kernel
theorem d_T_payBoth_16 : decode m_T_payBoth.2.1 16 = .ok (.irem, 1) := by decide +kernel
theorem d_T_payBoth_17 : decode m_T_payBoth.2.1 17 = .ok (.if_icmp .eq (11), 3) := by decide +kernel
theorem d_T_payBoth_20 : decode m_T_payBoth.2.1 20 = .ok (.iload_n 2, 1) := by decide +kernel
theorem d_T_payBoth_21 : decode m_T_payBoth.2.1 21 = .ok (.iconst 3, 1) := by decide +kernel
theorem d_T_payBoth_22 : decode m_T_payBoth.2.1 22 = .ok (.invokestatic 72, 3) := by decide +kernel
theorem d_T_payBoth_25 : decode m_T_payBoth.2.1 25 = .ok (.ifCond .ne (5), 3) := by decide +kernel
theorem d_T_payBoth_30 : decode m_T_payBoth.2.1 30 = .ok (.aload_n 0, 1) := by decide +kernel
theorem d_T_payBoth_31 : decode m_T_payBoth.2.1 31 = .ok (.getfield 26, 3) := by decide +kernel
theorem d_T_payBoth_34 : decode m_T_payBoth.2.1 34 = .ok (.aload_n 0, 1) := by decide +kernel
theorem d_T_payBoth_35 : decode m_T_payBoth.2.1 35 = .ok (.getfield 10, 3) := by decide +kernel
theorem d_T_payBoth_38 : decode m_T_payBoth.2.1 38 = .ok (.invokevirtual 161, 3) := by decide +kernel
theorem d_T_payBoth_41 : decode m_T_payBoth.2.1 41 = .ok (.aload_n 0, 1) := by decide +kernel
theorem d_T_payBoth_42 : decode m_T_payBoth.2.1 42 = .ok (.getfield 26, 3) := by decide +kernel
theorem d_T_payBoth_45 : decode m_T_payBoth.2.1 45 = .ok (.iload_n 1, 1) := by decide +kernel
theorem d_T_payBoth_46 : decode m_T_payBoth.2.1 46 = .ok (.bipush (10), 2) := by decide +kernel
theorem d_T_payBoth_48 : decode m_T_payBoth.2.1 48 = .ok (.idiv, 1) := by decide +kernel
theorem d_T_payBoth_49 : decode m_T_payBoth.2.1 49 = .ok (.iload_n 1, 1) := by decide +kernel
theorem d_T_payBoth_50 : decode m_T_payBoth.2.1 50 = .ok (.bipush (10), 2) := by decide +kernel
theorem d_T_payBoth_52 : decode m_T_payBoth.2.1 52 = .ok (.irem, 1) := by decide +kernel
theorem d_T_payBoth_53 : decode m_T_payBoth.2.1 53 = .ok (.invokevirtual 177, 3) := by decide +kernel
theorem d_T_payBoth_56 : decode m_T_payBoth.2.1 56 = .ok (.ifCond .ne (6), 3) := by decide +kernel
theorem d_T_payBoth_59 : decode m_T_payBoth.2.1 59 = .ok (.bipush (-2), 2) := by decide +kernel
theorem d_T_payBoth_61 : decode m_T_payBoth.2.1 61 = .ok (.ireturn, 1) := by decide +kernel
theorem d_T_payBoth_62 : decode m_T_payBoth.2.1 62 = .ok (.iload_n 2, 1) := by decide +kernel
theorem d_T_payBoth_63 : decode m_T_payBoth.2.1 63 = .ok (.ifCond .ne (13), 3) := by decide +kernel
theorem d_T_payBoth_66 : decode m_T_payBoth.2.1 66 = .ok (.aload_n 0, 1) := by decide +kernel
theorem d_T_payBoth_67 : decode m_T_payBoth.2.1 67 = .ok (.getfield 26, 3) := by decide +kernel
theorem d_T_payBoth_70 : decode m_T_payBoth.2.1 70 = .ok (.getfield 168, 3) := by decide +kernel
theorem d_T_payBoth_73 : decode m_T_payBoth.2.1 73 = .ok (.goto (25), 3) := by decide +kernel
theorem d_T_payBoth_98 : decode m_T_payBoth.2.1 98 = .ok (.ireturn, 1) := by decide +kernel
theorem d_T_payBoth_76 : decode m_T_payBoth.2.1 76 = .ok (.iload_n 2, 1) := by decide +kernel
theorem d_T_payBoth_77 : decode m_T_payBoth.2.1 77 = .ok (.iconst 1, 1) := by decide +kernel
theorem d_T_payBoth_78 : decode m_T_payBoth.2.1 78 = .ok (.if_icmp .ne (13), 3) := by decide +kernel
theorem d_T_payBoth_81 : decode m_T_payBoth.2.1 81 = .ok (.aload_n 0, 1) := by decide +kernel
theorem d_T_payBoth_82 : decode m_T_payBoth.2.1 82 = .ok (.getfield 26, 3) := by decide +kernel
theorem d_T_payBoth_85 : decode m_T_payBoth.2.1 85 = .ok (.getfield 171, 3) := by decide +kernel
theorem d_T_payBoth_88 : decode m_T_payBoth.2.1 88 = .ok (.goto (10), 3) := by decide +kernel
theorem d_T_payBoth_91 : decode m_T_payBoth.2.1 91 = .ok (.aload_n 0, 1) := by decide +kernel
theorem d_T_payBoth_92 : decode m_T_payBoth.2.1 92 = .ok (.getfield 26, 3) := by decide +kernel
theorem d_T_payBoth_95 : decode m_T_payBoth.2.1 95 = .ok (.getfield 180, 3) := by decide +kernel
theorem d_Cr_alone_0 : decode m_Cr_alone.2.1 0 = .ok (.iconst 0, 1) := by decide +kernel
theorem d_Cr_alone_1 : decode m_Cr_alone.2.1 1 = .ok (.istore_n 1, 1) := by decide +kernel
theorem d_Cr_alone_2 : decode m_Cr_alone.2.1 2 = .ok (.iconst 0, 1) := by decide +kernel
theorem d_Cr_alone_3 : decode m_Cr_alone.2.1 3 = .ok (.istore_n 2, 1) := by decide +kernel
theorem d_Cr_alone_4 : decode m_Cr_alone.2.1 4 = .ok (.iconst 0, 1) := by decide +kernel
theorem d_Cr_alone_5 : decode m_Cr_alone.2.1 5 = .ok (.istore_n 3, 1) := by decide +kernel
theorem d_Cr_alone_6 : decode m_Cr_alone.2.1 6 = .ok (.iload_n 3, 1) := by decide +kernel
theorem d_Cr_alone_7 : decode m_Cr_alone.2.1 7 = .ok (.aload_n 0, 1) := by decide +kernel
theorem d_Cr_alone_8 : decode m_Cr_alone.2.1 8 = .ok (.getfield 52, 3) := by decide +kernel
theorem d_Cr_alone_11 : decode m_Cr_alone.2.1 11 = .ok (.if_icmp .ge (71), 3) := by decide +kernel
theorem d_Cr_alone_82 : decode m_Cr_alone.2.1 82 = .ok (.iload_n 1, 1) := by decide +kernel
theorem d_Cr_alone_83 : decode m_Cr_alone.2.1 83 = .ok (.iload_n 2, 1) := by decide +kernel
theorem d_Cr_alone_84 : decode m_Cr_alone.2.1 84 = .ok (.iconst (-1), 1) := by decide +kernel
theorem d_Cr_alone_85 : decode m_Cr_alone.2.1 85 = .ok (.ixor, 1) := by decide +kernel
theorem d_Cr_alone_86 : decode m_Cr_alone.2.1 86 = .ok (.iand, 1) := by decide +kernel
theorem d_Cr_alone_87 : decode m_Cr_alone.2.1 87 = .ok (.ireturn, 1) := by decide +kernel
theorem d_Cr_alone_14 : decode m_Cr_alone.2.1 14 = .ok (.iload_n 3, 1) := by decide +kernel
theorem d_Cr_alone_15 : decode m_Cr_alone.2.1 15 = .ok (.iconst 1, 1) := by decide +kernel
theorem d_Cr_alone_16 : decode m_Cr_alone.2.1 16 = .ok (.iadd, 1) := by decide +kernel
theorem d_Cr_alone_17 : decode m_Cr_alone.2.1 17 = .ok (.istore 4, 2) := by decide +kernel
theorem d_Cr_alone_19 : decode m_Cr_alone.2.1 19 = .ok (.iload 4, 2) := by decide +kernel
theorem d_Cr_alone_21 : decode m_Cr_alone.2.1 21 = .ok (.aload_n 0, 1) := by decide +kernel
theorem d_Cr_alone_22 : decode m_Cr_alone.2.1 22 = .ok (.getfield 52, 3) := by decide +kernel
theorem d_Cr_alone_25 : decode m_Cr_alone.2.1 25 = .ok (.if_icmp .ge (51), 3) := by decide +kernel
theorem d_Cr_alone_76 : decode m_Cr_alone.2.1 76 = .ok (.iinc 3 (1), 3) := by decide +kernel
theorem d_Cr_alone_79 : decode m_Cr_alone.2.1 79 = .ok (.goto (-73), 3) := by decide +kernel
theorem d_Cr_alone_28 : decode m_Cr_alone.2.1 28 = .ok (.aload_n 0, 1) := by decide +kernel
theorem d_Cr_alone_29 : decode m_Cr_alone.2.1 29 = .ok (.iload_n 3, 1) := by decide +kernel
theorem d_Cr_alone_30 : decode m_Cr_alone.2.1 30 = .ok (.iload 4, 2) := by decide +kernel
theorem d_Cr_alone_32 : decode m_Cr_alone.2.1 32 = .ok (.invokevirtual 100, 3) := by decide +kernel
theorem d_Cr_alone_35 : decode m_Cr_alone.2.1 35 = .ok (.ifCond .eq (35), 3) := by decide +kernel
theorem d_Cr_alone_70 : decode m_Cr_alone.2.1 70 = .ok (.iinc 4 (1), 3) := by decide +kernel
theorem d_Cr_alone_73 : decode m_Cr_alone.2.1 73 = .ok (.goto (-54), 3) := by decide +kernel
theorem d_Cr_alone_38 : decode m_Cr_alone.2.1 38 = .ok (.iconst 1, 1) := by decide +kernel
theorem d_Cr_alone_39 : decode m_Cr_alone.2.1 39 = .ok (.aload_n 0, 1) := by decide +kernel
theorem d_Cr_alone_40 : decode m_Cr_alone.2.1 40 = .ok (.getfield 9, 3) := by decide +kernel
theorem d_Cr_alone_43 : decode m_Cr_alone.2.1 43 = .ok (.iload_n 3, 1) := by decide +kernel
theorem d_Cr_alone_44 : decode m_Cr_alone.2.1 44 = .ok (.iaload, 1) := by decide +kernel
theorem d_Cr_alone_45 : decode m_Cr_alone.2.1 45 = .ok (.aload_n 0, 1) := by decide +kernel
theorem d_Cr_alone_46 : decode m_Cr_alone.2.1 46 = .ok (.getfield 9, 3) := by decide +kernel
theorem d_Cr_alone_49 : decode m_Cr_alone.2.1 49 = .ok (.iload 4, 2) := by decide +kernel
theorem d_Cr_alone_51 : decode m_Cr_alone.2.1 51 = .ok (.iaload, 1) := by decide +kernel
theorem d_Cr_alone_52 : decode m_Cr_alone.2.1 52 = .ok (.invokestatic 46, 3) := by decide +kernel
theorem d_Cr_alone_55 : decode m_Cr_alone.2.1 55 = .ok (.ishl, 1) := by decide +kernel
theorem d_Cr_alone_56 : decode m_Cr_alone.2.1 56 = .ok (.istore 5, 2) := by decide +kernel
theorem d_Cr_alone_58 : decode m_Cr_alone.2.1 58 = .ok (.iload_n 2, 1) := by decide +kernel
theorem d_Cr_alone_59 : decode m_Cr_alone.2.1 59 = .ok (.iload_n 1, 1) := by decide +kernel
theorem d_Cr_alone_60 : decode m_Cr_alone.2.1 60 = .ok (.iload 5, 2) := by decide +kernel
theorem d_Cr_alone_62 : decode m_Cr_alone.2.1 62 = .ok (.iand, 1) := by decide +kernel
theorem d_Cr_alone_63 : decode m_Cr_alone.2.1 63 = .ok (.ior, 1) := by decide +kernel
theorem d_Cr_alone_64 : decode m_Cr_alone.2.1 64 = .ok (.istore_n 2, 1) := by decide +kernel
theorem d_Cr_alone_65 : decode m_Cr_alone.2.1 65 = .ok (.iload_n 1, 1) := by decide +kernel
theorem d_Cr_alone_66 : decode m_Cr_alone.2.1 66 = .ok (.iload 5, 2) := by decide +kernel
theorem d_Cr_alone_68 : decode m_Cr_alone.2.1 68 = .ok (.ior, 1) := by decide +kernel
theorem d_Cr_alone_69 : decode m_Cr_alone.2.1 69 = .ok (.istore_n 1, 1) := by decide +kernel
theorem d_Cr_joinGroups_0 : decode m_Cr_joinGroups.2.1 0 = .ok (.iconst 0, 1) := by decide +kernel
theorem d_Cr_joinGroups_1 : decode m_Cr_joinGroups.2.1 1 = .ok (.istore_n 3, 1) := by decide +kernel
theorem d_Cr_joinGroups_2 : decode m_Cr_joinGroups.2.1 2 = .ok (.iload_n 3, 1) := by decide +kernel
theorem d_Cr_joinGroups_3 : decode m_Cr_joinGroups.2.1 3 = .ok (.bipush (8), 2) := by decide +kernel
theorem d_Cr_joinGroups_5 : decode m_Cr_joinGroups.2.1 5 = .ok (.if_icmp .ge (26), 3) := by decide +kernel
theorem d_Cr_joinGroups_31 : decode m_Cr_joinGroups.2.1 31 = .ok (.return_, 1) := by decide +kernel
theorem d_Cr_joinGroups_8 : decode m_Cr_joinGroups.2.1 8 = .ok (.aload_n 0, 1) := by decide +kernel
theorem d_Cr_joinGroups_9 : decode m_Cr_joinGroups.2.1 9 = .ok (.getfield 24, 3) := by decide +kernel
theorem d_Cr_joinGroups_12 : decode m_Cr_joinGroups.2.1 12 = .ok (.iload_n 3, 1) := by decide +kernel
theorem d_Cr_joinGroups_13 : decode m_Cr_joinGroups.2.1 13 = .ok (.iaload, 1) := by decide +kernel
theorem d_Cr_joinGroups_14 : decode m_Cr_joinGroups.2.1 14 = .ok (.iload_n 2, 1) := by decide +kernel
theorem d_Cr_joinGroups_15 : decode m_Cr_joinGroups.2.1 15 = .ok (.if_icmp .ne (10), 3) := by decide +kernel
theorem d_Cr_joinGroups_18 : decode m_Cr_joinGroups.2.1 18 = .ok (.aload_n 0, 1) := by decide +kernel
theorem d_Cr_joinGroups_19 : decode m_Cr_joinGroups.2.1 19 = .ok (.getfield 24, 3) := by decide +kernel
theorem d_Cr_joinGroups_22 : decode m_Cr_joinGroups.2.1 22 = .ok (.iload_n 3, 1) := by decide +kernel
theorem d_Cr_joinGroups_23 : decode m_Cr_joinGroups.2.1 23 = .ok (.iload_n 1, 1) := by decide +kernel
theorem d_Cr_joinGroups_24 : decode m_Cr_joinGroups.2.1 24 = .ok (.iastore, 1) := by decide +kernel
theorem d_Cr_joinGroups_25 : decode m_Cr_joinGroups.2.1 25 = .ok (.iinc 3 (1), 3) := by decide +kernel
theorem d_Cr_joinGroups_28 : decode m_Cr_joinGroups.2.1 28 = .ok (.goto (-26), 3) := by decide +kernel
theorem d_Cr_marriagesToDrought_0 : decode m_Cr_marriagesToDrought.2.1 0 = .ok (.iconst 0, 1) := by decide +kernel
theorem d_Cr_marriagesToDrought_1 : decode m_Cr_marriagesToDrought.2.1 1 = .ok (.istore_n 1, 1) := by decide +kernel
theorem d_Cr_marriagesToDrought_2 : decode m_Cr_marriagesToDrought.2.1 2 = .ok (.iload_n 1, 1) := by decide +kernel
theorem d_Cr_marriagesToDrought_3 : decode m_Cr_marriagesToDrought.2.1 3 = .ok (.bipush (8), 2) := by decide +kernel
theorem d_Cr_marriagesToDrought_5 : decode m_Cr_marriagesToDrought.2.1 5 = .ok (.if_icmp .ge (16), 3) := by decide +kernel
theorem d_Cr_marriagesToDrought_21 : decode m_Cr_marriagesToDrought.2.1 21 = .ok (.iconst 0, 1) := by decide +kernel
theorem d_Cr_marriagesToDrought_22 : decode m_Cr_marriagesToDrought.2.1 22 = .ok (.istore_n 1, 1) := by decide +kernel
theorem d_Cr_marriagesToDrought_23 : decode m_Cr_marriagesToDrought.2.1 23 = .ok (.iconst 0, 1) := by decide +kernel
theorem d_Cr_marriagesToDrought_24 : decode m_Cr_marriagesToDrought.2.1 24 = .ok (.istore_n 2, 1) := by decide +kernel
theorem d_Cr_marriagesToDrought_25 : decode m_Cr_marriagesToDrought.2.1 25 = .ok (.iload_n 2, 1) := by decide +kernel
theorem d_Cr_marriagesToDrought_26 : decode m_Cr_marriagesToDrought.2.1 26 = .ok (.aload_n 0, 1) := by decide +kernel
theorem d_Cr_marriagesToDrought_27 : decode m_Cr_marriagesToDrought.2.1 27 = .ok (.getfield 52, 3) := by decide +kernel
theorem d_Cr_marriagesToDrought_30 : decode m_Cr_marriagesToDrought.2.1 30 = .ok (.if_icmp .ge (90), 3) := by decide +kernel
theorem d_Cr_marriagesToDrought_120 : decode m_Cr_marriagesToDrought.2.1 120 = .ok (.iload_n 1, 1) := by decide +kernel
theorem d_Cr_marriagesToDrought_121 : decode m_Cr_marriagesToDrought.2.1 121 = .ok (.ireturn, 1) := by decide +kernel
theorem d_Cr_marriagesToDrought_33 : decode m_Cr_marriagesToDrought.2.1 33 = .ok (.iload_n 2, 1) := by decide +kernel
theorem d_Cr_marriagesToDrought_34 : decode m_Cr_marriagesToDrought.2.1 34 = .ok (.iconst 1, 1) := by decide +kernel
theorem d_Cr_marriagesToDrought_35 : decode m_Cr_marriagesToDrought.2.1 35 = .ok (.iadd, 1) := by decide +kernel
theorem d_Cr_marriagesToDrought_36 : decode m_Cr_marriagesToDrought.2.1 36 = .ok (.istore_n 3, 1) := by decide +kernel
theorem d_Cr_marriagesToDrought_37 : decode m_Cr_marriagesToDrought.2.1 37 = .ok (.iload_n 3, 1) := by decide +kernel
theorem d_Cr_marriagesToDrought_38 : decode m_Cr_marriagesToDrought.2.1 38 = .ok (.aload_n 0, 1) := by decide +kernel
theorem d_Cr_marriagesToDrought_39 : decode m_Cr_marriagesToDrought.2.1 39 = .ok (.getfield 52, 3) := by decide +kernel
theorem d_Cr_marriagesToDrought_42 : decode m_Cr_marriagesToDrought.2.1 42 = .ok (.if_icmp .ge (72), 3) := by decide +kernel
theorem d_Cr_marriagesToDrought_114 : decode m_Cr_marriagesToDrought.2.1 114 = .ok (.iinc 2 (1), 3) := by decide +kernel
theorem d_Cr_marriagesToDrought_117 : decode m_Cr_marriagesToDrought.2.1 117 = .ok (.goto (-92), 3) := by decide +kernel
theorem d_Cr_marriagesToDrought_45 : decode m_Cr_marriagesToDrought.2.1 45 = .ok (.aload_n 0, 1) := by decide +kernel
theorem d_Cr_marriagesToDrought_46 : decode m_Cr_marriagesToDrought.2.1 46 = .ok (.iload_n 2, 1) := by decide +kernel
theorem d_Cr_marriagesToDrought_47 : decode m_Cr_marriagesToDrought.2.1 47 = .ok (.iload_n 3, 1) := by decide +kernel
theorem d_Cr_marriagesToDrought_48 : decode m_Cr_marriagesToDrought.2.1 48 = .ok (.invokevirtual 100, 3) := by decide +kernel
theorem d_Cr_marriagesToDrought_51 : decode m_Cr_marriagesToDrought.2.1 51 = .ok (.ifCond .eq (57), 3) := by decide +kernel
theorem d_Cr_marriagesToDrought_108 : decode m_Cr_marriagesToDrought.2.1 108 = .ok (.iinc 3 (1), 3) := by decide +kernel
theorem d_Cr_marriagesToDrought_111 : decode m_Cr_marriagesToDrought.2.1 111 = .ok (.goto (-74), 3) := by decide +kernel
theorem d_Cr_marriagesToDrought_54 : decode m_Cr_marriagesToDrought.2.1 54 = .ok (.aload_n 0, 1) := by decide +kernel
theorem d_Cr_marriagesToDrought_55 : decode m_Cr_marriagesToDrought.2.1 55 = .ok (.getfield 24, 3) := by decide +kernel
theorem d_Cr_marriagesToDrought_58 : decode m_Cr_marriagesToDrought.2.1 58 = .ok (.aload_n 0, 1) := by decide +kernel
theorem d_Cr_marriagesToDrought_59 : decode m_Cr_marriagesToDrought.2.1 59 = .ok (.getfield 15, 3) := by decide +kernel
theorem d_Cr_marriagesToDrought_62 : decode m_Cr_marriagesToDrought.2.1 62 = .ok (.iload_n 2, 1) := by decide +kernel
theorem d_Cr_marriagesToDrought_63 : decode m_Cr_marriagesToDrought.2.1 63 = .ok (.iaload, 1) := by decide +kernel
theorem d_Cr_marriagesToDrought_64 : decode m_Cr_marriagesToDrought.2.1 64 = .ok (.iaload, 1) := by decide +kernel
theorem d_Cr_marriagesToDrought_65 : decode m_Cr_marriagesToDrought.2.1 65 = .ok (.aload_n 0, 1) := by decide +kernel
theorem d_Cr_marriagesToDrought_66 : decode m_Cr_marriagesToDrought.2.1 66 = .ok (.getfield 24, 3) := by decide +kernel
theorem d_Cr_marriagesToDrought_69 : decode m_Cr_marriagesToDrought.2.1 69 = .ok (.aload_n 0, 1) := by decide +kernel
theorem d_Cr_marriagesToDrought_70 : decode m_Cr_marriagesToDrought.2.1 70 = .ok (.getfield 15, 3) := by decide +kernel
theorem d_Cr_marriagesToDrought_73 : decode m_Cr_marriagesToDrought.2.1 73 = .ok (.iload_n 3, 1) := by decide +kernel
theorem d_Cr_marriagesToDrought_74 : decode m_Cr_marriagesToDrought.2.1 74 = .ok (.iaload, 1) := by decide +kernel
theorem d_Cr_marriagesToDrought_75 : decode m_Cr_marriagesToDrought.2.1 75 = .ok (.iaload, 1) := by decide +kernel
theorem d_Cr_marriagesToDrought_76 : decode m_Cr_marriagesToDrought.2.1 76 = .ok (.if_icmp .eq (32), 3) := by decide +kernel
theorem d_Cr_marriagesToDrought_79 : decode m_Cr_marriagesToDrought.2.1 79 = .ok (.aload_n 0, 1) := by decide +kernel
theorem d_Cr_marriagesToDrought_80 : decode m_Cr_marriagesToDrought.2.1 80 = .ok (.aload_n 0, 1) := by decide +kernel
theorem d_Cr_marriagesToDrought_81 : decode m_Cr_marriagesToDrought.2.1 81 = .ok (.getfield 24, 3) := by decide +kernel
theorem d_Cr_marriagesToDrought_84 : decode m_Cr_marriagesToDrought.2.1 84 = .ok (.aload_n 0, 1) := by decide +kernel
theorem d_Cr_marriagesToDrought_85 : decode m_Cr_marriagesToDrought.2.1 85 = .ok (.getfield 15, 3) := by decide +kernel
theorem d_Cr_marriagesToDrought_88 : decode m_Cr_marriagesToDrought.2.1 88 = .ok (.iload_n 2, 1) := by decide +kernel
theorem d_Cr_marriagesToDrought_89 : decode m_Cr_marriagesToDrought.2.1 89 = .ok (.iaload, 1) := by decide +kernel
theorem d_Cr_marriagesToDrought_90 : decode m_Cr_marriagesToDrought.2.1 90 = .ok (.iaload, 1) := by decide +kernel
theorem d_Cr_marriagesToDrought_91 : decode m_Cr_marriagesToDrought.2.1 91 = .ok (.aload_n 0, 1) := by decide +kernel
theorem d_Cr_marriagesToDrought_92 : decode m_Cr_marriagesToDrought.2.1 92 = .ok (.getfield 24, 3) := by decide +kernel
theorem d_Cr_marriagesToDrought_95 : decode m_Cr_marriagesToDrought.2.1 95 = .ok (.aload_n 0, 1) := by decide +kernel
theorem d_Cr_marriagesToDrought_96 : decode m_Cr_marriagesToDrought.2.1 96 = .ok (.getfield 15, 3) := by decide +kernel
theorem d_Cr_marriagesToDrought_99 : decode m_Cr_marriagesToDrought.2.1 99 = .ok (.iload_n 3, 1) := by decide +kernel
theorem d_Cr_marriagesToDrought_100 : decode m_Cr_marriagesToDrought.2.1 100 = .ok (.iaload, 1) := by decide +kernel
theorem d_Cr_marriagesToDrought_101 : decode m_Cr_marriagesToDrought.2.1 101 = .ok (.iaload, 1) := by decide +kernel
theorem d_Cr_marriagesToDrought_102 : decode m_Cr_marriagesToDrought.2.1 102 = .ok (.invokevirtual 124, 3) := by decide +kernel
theorem d_Cr_marriagesToDrought_105 : decode m_Cr_marriagesToDrought.2.1 105 = .ok (.iinc 1 (1), 3) := by decide +kernel
theorem d_Cr_marriagesToDrought_8 : decode m_Cr_marriagesToDrought.2.1 8 = .ok (.aload_n 0, 1) := by decide +kernel
theorem d_Cr_marriagesToDrought_9 : decode m_Cr_marriagesToDrought.2.1 9 = .ok (.getfield 24, 3) := by decide +kernel
theorem d_Cr_marriagesToDrought_12 : decode m_Cr_marriagesToDrought.2.1 12 = .ok (.iload_n 1, 1) := by decide +kernel
theorem d_Cr_marriagesToDrought_13 : decode m_Cr_marriagesToDrought.2.1 13 = .ok (.iload_n 1, 1) := by decide +kernel
theorem d_Cr_marriagesToDrought_14 : decode m_Cr_marriagesToDrought.2.1 14 = .ok (.iastore, 1) := by decide +kernel
theorem d_Cr_marriagesToDrought_15 : decode m_Cr_marriagesToDrought.2.1 15 = .ok (.iinc 1 (1), 3) := by decide +kernel
theorem d_Cr_marriagesToDrought_18 : decode m_Cr_marriagesToDrought.2.1 18 = .ok (.goto (-16), 3) := by decide +kernel
theorem d_T_lowestOf_0 : decode m_T_lowestOf.2.1 0 = .ok (.iconst 0, 1) := by decide +kernel
theorem d_T_lowestOf_1 : decode m_T_lowestOf.2.1 1 = .ok (.istore_n 1, 1) := by decide +kernel
theorem d_T_lowestOf_2 : decode m_T_lowestOf.2.1 2 = .ok (.iload_n 1, 1) := by decide +kernel
theorem d_T_lowestOf_3 : decode m_T_lowestOf.2.1 3 = .ok (.bipush (32), 2) := by decide +kernel
theorem d_T_lowestOf_5 : decode m_T_lowestOf.2.1 5 = .ok (.if_icmp .ge (17), 3) := by decide +kernel
theorem d_T_lowestOf_22 : decode m_T_lowestOf.2.1 22 = .ok (.iload_n 1, 1) := by decide +kernel
theorem d_T_lowestOf_23 : decode m_T_lowestOf.2.1 23 = .ok (.ireturn, 1) := by decide +kernel
theorem d_T_lowestOf_8 : decode m_T_lowestOf.2.1 8 = .ok (.iload_n 0, 1) := by decide +kernel
theorem d_T_lowestOf_9 : decode m_T_lowestOf.2.1 9 = .ok (.iload_n 1, 1) := by decide +kernel
theorem d_T_lowestOf_10 : decode m_T_lowestOf.2.1 10 = .ok (.invokestatic 160, 3) := by decide +kernel
theorem d_T_lowestOf_13 : decode m_T_lowestOf.2.1 13 = .ok (.ifCond .ne (9), 3) := by decide +kernel
theorem d_T_lowestOf_16 : decode m_T_lowestOf.2.1 16 = .ok (.iinc 1 (1), 3) := by decide +kernel
theorem d_T_lowestOf_19 : decode m_T_lowestOf.2.1 19 = .ok (.goto (-17), 3) := by decide +kernel
theorem d_Cr_boundAmong_0 : decode m_Cr_boundAmong.2.1 0 = .ok (.iload_n 1, 1) := by decide +kernel
theorem d_Cr_boundAmong_1 : decode m_Cr_boundAmong.2.1 1 = .ok (.invokestatic 107, 3) := by decide +kernel
theorem d_Cr_boundAmong_4 : decode m_Cr_boundAmong.2.1 4 = .ok (.istore_n 2, 1) := by decide +kernel
theorem d_Cr_boundAmong_5 : decode m_Cr_boundAmong.2.1 5 = .ok (.iconst 0, 1) := by decide +kernel
theorem d_Cr_boundAmong_6 : decode m_Cr_boundAmong.2.1 6 = .ok (.istore_n 3, 1) := by decide +kernel
theorem d_Cr_boundAmong_7 : decode m_Cr_boundAmong.2.1 7 = .ok (.iconst 0, 1) := by decide +kernel
theorem d_Cr_boundAmong_8 : decode m_Cr_boundAmong.2.1 8 = .ok (.istore 4, 2) := by decide +kernel
theorem d_Cr_boundAmong_10 : decode m_Cr_boundAmong.2.1 10 = .ok (.iload 4, 2) := by decide +kernel
theorem d_Cr_boundAmong_12 : decode m_Cr_boundAmong.2.1 12 = .ok (.bipush (8), 2) := by decide +kernel
theorem d_Cr_boundAmong_14 : decode m_Cr_boundAmong.2.1 14 = .ok (.if_icmp .ge (26), 3) := by decide +kernel
theorem d_Cr_boundAmong_40 : decode m_Cr_boundAmong.2.1 40 = .ok (.iload_n 2, 1) := by decide +kernel
theorem d_Cr_boundAmong_41 : decode m_Cr_boundAmong.2.1 41 = .ok (.iconst 2, 1) := by decide +kernel
theorem d_Cr_boundAmong_42 : decode m_Cr_boundAmong.2.1 42 = .ok (.idiv, 1) := by decide +kernel
theorem d_Cr_boundAmong_43 : decode m_Cr_boundAmong.2.1 43 = .ok (.iload_n 2, 1) := by decide +kernel
theorem d_Cr_boundAmong_44 : decode m_Cr_boundAmong.2.1 44 = .ok (.iload_n 3, 1) := by decide +kernel
theorem d_Cr_boundAmong_45 : decode m_Cr_boundAmong.2.1 45 = .ok (.isub, 1) := by decide +kernel
theorem d_Cr_boundAmong_46 : decode m_Cr_boundAmong.2.1 46 = .ok (.invokestatic 46, 3) := by decide +kernel
theorem d_Cr_boundAmong_49 : decode m_Cr_boundAmong.2.1 49 = .ok (.ireturn, 1) := by decide +kernel
theorem d_Cr_boundAmong_17 : decode m_Cr_boundAmong.2.1 17 = .ok (.iload_n 3, 1) := by decide +kernel
theorem d_Cr_boundAmong_18 : decode m_Cr_boundAmong.2.1 18 = .ok (.iload_n 1, 1) := by decide +kernel
theorem d_Cr_boundAmong_19 : decode m_Cr_boundAmong.2.1 19 = .ok (.aload_n 0, 1) := by decide +kernel
theorem d_Cr_boundAmong_20 : decode m_Cr_boundAmong.2.1 20 = .ok (.getfield 24, 3) := by decide +kernel
theorem d_Cr_boundAmong_23 : decode m_Cr_boundAmong.2.1 23 = .ok (.iload 4, 2) := by decide +kernel
theorem d_Cr_boundAmong_25 : decode m_Cr_boundAmong.2.1 25 = .ok (.iaload, 1) := by decide +kernel
theorem d_Cr_boundAmong_26 : decode m_Cr_boundAmong.2.1 26 = .ok (.iand, 1) := by decide +kernel
theorem d_Cr_boundAmong_27 : decode m_Cr_boundAmong.2.1 27 = .ok (.invokestatic 107, 3) := by decide +kernel
theorem d_Cr_boundAmong_30 : decode m_Cr_boundAmong.2.1 30 = .ok (.invokestatic 121, 3) := by decide +kernel
theorem d_Cr_boundAmong_33 : decode m_Cr_boundAmong.2.1 33 = .ok (.istore_n 3, 1) := by decide +kernel
theorem d_Cr_boundAmong_34 : decode m_Cr_boundAmong.2.1 34 = .ok (.iinc 4 (1), 3) := by decide +kernel
theorem d_Cr_boundAmong_37 : decode m_Cr_boundAmong.2.1 37 = .ok (.goto (-27), 3) := by decide +kernel
theorem d_Cr_mostAmong_0 : decode m_Cr_mostAmong.2.1 0 = .ok (.aload_n 0, 1) := by decide +kernel
theorem d_Cr_mostAmong_1 : decode m_Cr_mostAmong.2.1 1 = .ok (.iload_n 1, 1) := by decide +kernel
theorem d_Cr_mostAmong_2 : decode m_Cr_mostAmong.2.1 2 = .ok (.invokevirtual 115, 3) := by decide +kernel
theorem d_Cr_mostAmong_5 : decode m_Cr_mostAmong.2.1 5 = .ok (.istore_n 2, 1) := by decide +kernel
theorem d_Cr_mostAmong_6 : decode m_Cr_mostAmong.2.1 6 = .ok (.iload_n 1, 1) := by decide +kernel
theorem d_Cr_mostAmong_7 : decode m_Cr_mostAmong.2.1 7 = .ok (.invokestatic 118, 3) := by decide +kernel
theorem d_Cr_mostAmong_10 : decode m_Cr_mostAmong.2.1 10 = .ok (.istore_n 3, 1) := by decide +kernel
theorem d_Cr_mostAmong_11 : decode m_Cr_mostAmong.2.1 11 = .ok (.iload_n 2, 1) := by decide +kernel
theorem d_Cr_mostAmong_12 : decode m_Cr_mostAmong.2.1 12 = .ok (.ifCond .le (9), 3) := by decide +kernel
theorem d_Cr_mostAmong_21 : decode m_Cr_mostAmong.2.1 21 = .ok (.iconst 0, 1) := by decide +kernel
theorem d_Cr_mostAmong_22 : decode m_Cr_mostAmong.2.1 22 = .ok (.ireturn, 1) := by decide +kernel
theorem d_Cr_mostAmong_15 : decode m_Cr_mostAmong.2.1 15 = .ok (.iload_n 3, 1) := by decide +kernel
theorem d_Cr_mostAmong_16 : decode m_Cr_mostAmong.2.1 16 = .ok (.bipush (10), 2) := by decide +kernel
theorem d_Cr_mostAmong_18 : decode m_Cr_mostAmong.2.1 18 = .ok (.if_icmp .lt (5), 3) := by decide +kernel
theorem d_Cr_mostAmong_23 : decode m_Cr_mostAmong.2.1 23 = .ok (.iload_n 1, 1) := by decide +kernel
theorem d_Cr_mostAmong_24 : decode m_Cr_mostAmong.2.1 24 = .ok (.iconst 1, 1) := by decide +kernel
theorem d_Cr_mostAmong_25 : decode m_Cr_mostAmong.2.1 25 = .ok (.iload_n 3, 1) := by decide +kernel
theorem d_Cr_mostAmong_26 : decode m_Cr_mostAmong.2.1 26 = .ok (.ishl, 1) := by decide +kernel
theorem d_Cr_mostAmong_27 : decode m_Cr_mostAmong.2.1 27 = .ok (.iconst (-1), 1) := by decide +kernel
theorem d_Cr_mostAmong_28 : decode m_Cr_mostAmong.2.1 28 = .ok (.ixor, 1) := by decide +kernel
theorem d_Cr_mostAmong_29 : decode m_Cr_mostAmong.2.1 29 = .ok (.iand, 1) := by decide +kernel
theorem d_Cr_mostAmong_30 : decode m_Cr_mostAmong.2.1 30 = .ok (.istore 4, 2) := by decide +kernel
theorem d_Cr_mostAmong_32 : decode m_Cr_mostAmong.2.1 32 = .ok (.iconst 0, 1) := by decide +kernel
theorem d_Cr_mostAmong_33 : decode m_Cr_mostAmong.2.1 33 = .ok (.istore 5, 2) := by decide +kernel
theorem d_Cr_mostAmong_35 : decode m_Cr_mostAmong.2.1 35 = .ok (.iload_n 3, 1) := by decide +kernel
theorem d_Cr_mostAmong_36 : decode m_Cr_mostAmong.2.1 36 = .ok (.iconst 1, 1) := by decide +kernel
theorem d_Cr_mostAmong_37 : decode m_Cr_mostAmong.2.1 37 = .ok (.iadd, 1) := by decide +kernel
theorem d_Cr_mostAmong_38 : decode m_Cr_mostAmong.2.1 38 = .ok (.istore 6, 2) := by decide +kernel
theorem d_Cr_mostAmong_40 : decode m_Cr_mostAmong.2.1 40 = .ok (.iload 6, 2) := by decide +kernel
theorem d_Cr_mostAmong_42 : decode m_Cr_mostAmong.2.1 42 = .ok (.aload_n 0, 1) := by decide +kernel
theorem d_Cr_mostAmong_43 : decode m_Cr_mostAmong.2.1 43 = .ok (.getfield 52, 3) := by decide +kernel
theorem d_Cr_mostAmong_46 : decode m_Cr_mostAmong.2.1 46 = .ok (.if_icmp .ge (54), 3) := by decide +kernel
theorem d_Cr_mostAmong_100 : decode m_Cr_mostAmong.2.1 100 = .ok (.iload 5, 2) := by decide +kernel
theorem d_Cr_mostAmong_102 : decode m_Cr_mostAmong.2.1 102 = .ok (.iload_n 2, 1) := by decide +kernel
theorem d_Cr_mostAmong_103 : decode m_Cr_mostAmong.2.1 103 = .ok (.if_icmp .ge (17), 3) := by decide +kernel
theorem d_Cr_mostAmong_120 : decode m_Cr_mostAmong.2.1 120 = .ok (.iload 5, 2) := by decide +kernel
theorem d_Cr_mostAmong_122 : decode m_Cr_mostAmong.2.1 122 = .ok (.ireturn, 1) := by decide +kernel
theorem d_Cr_mostAmong_106 : decode m_Cr_mostAmong.2.1 106 = .ok (.iload 5, 2) := by decide +kernel
theorem d_Cr_mostAmong_108 : decode m_Cr_mostAmong.2.1 108 = .ok (.aload_n 0, 1) := by decide +kernel
theorem d_Cr_mostAmong_109 : decode m_Cr_mostAmong.2.1 109 = .ok (.iload 4, 2) := by decide +kernel
theorem d_Cr_mostAmong_111 : decode m_Cr_mostAmong.2.1 111 = .ok (.invokevirtual 112, 3) := by decide +kernel
theorem d_Cr_mostAmong_114 : decode m_Cr_mostAmong.2.1 114 = .ok (.invokestatic 121, 3) := by decide +kernel
theorem d_Cr_mostAmong_117 : decode m_Cr_mostAmong.2.1 117 = .ok (.goto (5), 3) := by decide +kernel
theorem d_Cr_mostAmong_49 : decode m_Cr_mostAmong.2.1 49 = .ok (.iload 5, 2) := by decide +kernel
theorem d_Cr_mostAmong_51 : decode m_Cr_mostAmong.2.1 51 = .ok (.iload_n 2, 1) := by decide +kernel
theorem d_Cr_mostAmong_52 : decode m_Cr_mostAmong.2.1 52 = .ok (.if_icmp .ge (48), 3) := by decide +kernel
theorem d_Cr_mostAmong_55 : decode m_Cr_mostAmong.2.1 55 = .ok (.aload_n 0, 1) := by decide +kernel
theorem d_Cr_mostAmong_56 : decode m_Cr_mostAmong.2.1 56 = .ok (.getfield 21, 3) := by decide +kernel
theorem d_Cr_mostAmong_59 : decode m_Cr_mostAmong.2.1 59 = .ok (.iload_n 3, 1) := by decide +kernel
theorem d_Cr_mostAmong_60 : decode m_Cr_mostAmong.2.1 60 = .ok (.iaload, 1) := by decide +kernel
theorem d_Cr_mostAmong_61 : decode m_Cr_mostAmong.2.1 61 = .ok (.iload 4, 2) := by decide +kernel
theorem d_Cr_mostAmong_63 : decode m_Cr_mostAmong.2.1 63 = .ok (.iand, 1) := by decide +kernel
theorem d_Cr_mostAmong_64 : decode m_Cr_mostAmong.2.1 64 = .ok (.iload 6, 2) := by decide +kernel
theorem d_Cr_mostAmong_66 : decode m_Cr_mostAmong.2.1 66 = .ok (.invokestatic 97, 3) := by decide +kernel
theorem d_Cr_mostAmong_69 : decode m_Cr_mostAmong.2.1 69 = .ok (.ifCond .eq (25), 3) := by decide +kernel
theorem d_Cr_mostAmong_94 : decode m_Cr_mostAmong.2.1 94 = .ok (.iinc 6 (1), 3) := by decide +kernel
theorem d_Cr_mostAmong_97 : decode m_Cr_mostAmong.2.1 97 = .ok (.goto (-57), 3) := by decide +kernel
theorem d_Cr_mostAmong_72 : decode m_Cr_mostAmong.2.1 72 = .ok (.iload 5, 2) := by decide +kernel
theorem d_Cr_mostAmong_74 : decode m_Cr_mostAmong.2.1 74 = .ok (.iconst 1, 1) := by decide +kernel
theorem d_Cr_mostAmong_75 : decode m_Cr_mostAmong.2.1 75 = .ok (.aload_n 0, 1) := by decide +kernel
theorem d_Cr_mostAmong_76 : decode m_Cr_mostAmong.2.1 76 = .ok (.iload 4, 2) := by decide +kernel
theorem d_Cr_mostAmong_78 : decode m_Cr_mostAmong.2.1 78 = .ok (.iconst 1, 1) := by decide +kernel
theorem d_Cr_mostAmong_79 : decode m_Cr_mostAmong.2.1 79 = .ok (.iload 6, 2) := by decide +kernel
theorem d_Cr_mostAmong_81 : decode m_Cr_mostAmong.2.1 81 = .ok (.ishl, 1) := by decide +kernel
theorem d_Cr_mostAmong_82 : decode m_Cr_mostAmong.2.1 82 = .ok (.iconst (-1), 1) := by decide +kernel
theorem d_Cr_mostAmong_83 : decode m_Cr_mostAmong.2.1 83 = .ok (.ixor, 1) := by decide +kernel
theorem d_Cr_mostAmong_84 : decode m_Cr_mostAmong.2.1 84 = .ok (.iand, 1) := by decide +kernel
theorem d_Cr_mostAmong_85 : decode m_Cr_mostAmong.2.1 85 = .ok (.invokevirtual 112, 3) := by decide +kernel
theorem d_Cr_mostAmong_88 : decode m_Cr_mostAmong.2.1 88 = .ok (.iadd, 1) := by decide +kernel
theorem d_Cr_mostAmong_89 : decode m_Cr_mostAmong.2.1 89 = .ok (.invokestatic 121, 3) := by decide +kernel
theorem d_Cr_mostAmong_92 : decode m_Cr_mostAmong.2.1 92 = .ok (.istore 5, 2) := by decide +kernel
theorem d_Cr_mostCouples_0 : decode m_Cr_mostCouples.2.1 0 = .ok (.aload_n 0, 1) := by decide +kernel
theorem d_Cr_mostCouples_1 : decode m_Cr_mostCouples.2.1 1 = .ok (.getfield 21, 3) := by decide +kernel
theorem d_Cr_mostCouples_4 : decode m_Cr_mostCouples.2.1 4 = .ok (.iconst 0, 1) := by decide +kernel
theorem d_Cr_mostCouples_5 : decode m_Cr_mostCouples.2.1 5 = .ok (.invokestatic 65, 3) := by decide +kernel
theorem d_Cr_mostCouples_8 : decode m_Cr_mostCouples.2.1 8 = .ok (.aload_n 0, 1) := by decide +kernel
theorem d_Cr_mostCouples_9 : decode m_Cr_mostCouples.2.1 9 = .ok (.getfield 24, 3) := by decide +kernel
theorem d_Cr_mostCouples_12 : decode m_Cr_mostCouples.2.1 12 = .ok (.iconst 0, 1) := by decide +kernel
theorem d_Cr_mostCouples_13 : decode m_Cr_mostCouples.2.1 13 = .ok (.invokestatic 65, 3) := by decide +kernel
theorem d_Cr_mostCouples_16 : decode m_Cr_mostCouples.2.1 16 = .ok (.iconst 0, 1) := by decide +kernel
theorem d_Cr_mostCouples_17 : decode m_Cr_mostCouples.2.1 17 = .ok (.istore_n 1, 1) := by decide +kernel
theorem d_Cr_mostCouples_18 : decode m_Cr_mostCouples.2.1 18 = .ok (.iload_n 1, 1) := by decide +kernel
theorem d_Cr_mostCouples_19 : decode m_Cr_mostCouples.2.1 19 = .ok (.aload_n 0, 1) := by decide +kernel
theorem d_Cr_mostCouples_20 : decode m_Cr_mostCouples.2.1 20 = .ok (.getfield 52, 3) := by decide +kernel
theorem d_Cr_mostCouples_23 : decode m_Cr_mostCouples.2.1 23 = .ok (.if_icmp .ge (69), 3) := by decide +kernel
theorem d_Cr_mostCouples_92 : decode m_Cr_mostCouples.2.1 92 = .ok (.aload_n 0, 1) := by decide +kernel
theorem d_Cr_mostCouples_93 : decode m_Cr_mostCouples.2.1 93 = .ok (.iconst 1, 1) := by decide +kernel
theorem d_Cr_mostCouples_94 : decode m_Cr_mostCouples.2.1 94 = .ok (.aload_n 0, 1) := by decide +kernel
theorem d_Cr_mostCouples_95 : decode m_Cr_mostCouples.2.1 95 = .ok (.getfield 52, 3) := by decide +kernel
theorem d_Cr_mostCouples_98 : decode m_Cr_mostCouples.2.1 98 = .ok (.ishl, 1) := by decide +kernel
theorem d_Cr_mostCouples_99 : decode m_Cr_mostCouples.2.1 99 = .ok (.iconst 1, 1) := by decide +kernel
theorem d_Cr_mostCouples_100 : decode m_Cr_mostCouples.2.1 100 = .ok (.isub, 1) := by decide +kernel
theorem d_Cr_mostCouples_101 : decode m_Cr_mostCouples.2.1 101 = .ok (.invokevirtual 112, 3) := by decide +kernel
theorem d_Cr_mostCouples_104 : decode m_Cr_mostCouples.2.1 104 = .ok (.ireturn, 1) := by decide +kernel
theorem d_Cr_mostCouples_26 : decode m_Cr_mostCouples.2.1 26 = .ok (.aload_n 0, 1) := by decide +kernel
theorem d_Cr_mostCouples_27 : decode m_Cr_mostCouples.2.1 27 = .ok (.getfield 24, 3) := by decide +kernel
theorem d_Cr_mostCouples_30 : decode m_Cr_mostCouples.2.1 30 = .ok (.aload_n 0, 1) := by decide +kernel
theorem d_Cr_mostCouples_31 : decode m_Cr_mostCouples.2.1 31 = .ok (.getfield 15, 3) := by decide +kernel
theorem d_Cr_mostCouples_34 : decode m_Cr_mostCouples.2.1 34 = .ok (.iload_n 1, 1) := by decide +kernel
theorem d_Cr_mostCouples_35 : decode m_Cr_mostCouples.2.1 35 = .ok (.iaload, 1) := by decide +kernel
theorem d_Cr_mostCouples_36 : decode m_Cr_mostCouples.2.1 36 = .ok (.dup2, 1) := by decide +kernel
theorem d_Cr_mostCouples_37 : decode m_Cr_mostCouples.2.1 37 = .ok (.iaload, 1) := by decide +kernel
theorem d_Cr_mostCouples_38 : decode m_Cr_mostCouples.2.1 38 = .ok (.iconst 1, 1) := by decide +kernel
theorem d_Cr_mostCouples_39 : decode m_Cr_mostCouples.2.1 39 = .ok (.iload_n 1, 1) := by decide +kernel
theorem d_Cr_mostCouples_40 : decode m_Cr_mostCouples.2.1 40 = .ok (.ishl, 1) := by decide +kernel
theorem d_Cr_mostCouples_41 : decode m_Cr_mostCouples.2.1 41 = .ok (.ior, 1) := by decide +kernel
theorem d_Cr_mostCouples_42 : decode m_Cr_mostCouples.2.1 42 = .ok (.iastore, 1) := by decide +kernel
theorem d_Cr_mostCouples_43 : decode m_Cr_mostCouples.2.1 43 = .ok (.iload_n 1, 1) := by decide +kernel
theorem d_Cr_mostCouples_44 : decode m_Cr_mostCouples.2.1 44 = .ok (.iconst 1, 1) := by decide +kernel
theorem d_Cr_mostCouples_45 : decode m_Cr_mostCouples.2.1 45 = .ok (.iadd, 1) := by decide +kernel
theorem d_Cr_mostCouples_46 : decode m_Cr_mostCouples.2.1 46 = .ok (.istore_n 2, 1) := by decide +kernel
theorem d_Cr_mostCouples_47 : decode m_Cr_mostCouples.2.1 47 = .ok (.iload_n 2, 1) := by decide +kernel
theorem d_Cr_mostCouples_48 : decode m_Cr_mostCouples.2.1 48 = .ok (.aload_n 0, 1) := by decide +kernel
theorem d_Cr_mostCouples_49 : decode m_Cr_mostCouples.2.1 49 = .ok (.getfield 52, 3) := by decide +kernel
theorem d_Cr_mostCouples_52 : decode m_Cr_mostCouples.2.1 52 = .ok (.if_icmp .ge (34), 3) := by decide +kernel
theorem d_Cr_mostCouples_86 : decode m_Cr_mostCouples.2.1 86 = .ok (.iinc 1 (1), 3) := by decide +kernel
theorem d_Cr_mostCouples_89 : decode m_Cr_mostCouples.2.1 89 = .ok (.goto (-71), 3) := by decide +kernel
theorem d_Cr_mostCouples_55 : decode m_Cr_mostCouples.2.1 55 = .ok (.aload_n 0, 1) := by decide +kernel
theorem d_Cr_mostCouples_56 : decode m_Cr_mostCouples.2.1 56 = .ok (.getfield 21, 3) := by decide +kernel
theorem d_Cr_mostCouples_59 : decode m_Cr_mostCouples.2.1 59 = .ok (.iload_n 1, 1) := by decide +kernel
theorem d_Cr_mostCouples_60 : decode m_Cr_mostCouples.2.1 60 = .ok (.dup2, 1) := by decide +kernel
theorem d_Cr_mostCouples_61 : decode m_Cr_mostCouples.2.1 61 = .ok (.iaload, 1) := by decide +kernel
theorem d_Cr_mostCouples_62 : decode m_Cr_mostCouples.2.1 62 = .ok (.aload_n 0, 1) := by decide +kernel
theorem d_Cr_mostCouples_63 : decode m_Cr_mostCouples.2.1 63 = .ok (.iload_n 1, 1) := by decide +kernel
theorem d_Cr_mostCouples_64 : decode m_Cr_mostCouples.2.1 64 = .ok (.iload_n 2, 1) := by decide +kernel
theorem d_Cr_mostCouples_65 : decode m_Cr_mostCouples.2.1 65 = .ok (.invokevirtual 100, 3) := by decide +kernel
theorem d_Cr_mostCouples_68 : decode m_Cr_mostCouples.2.1 68 = .ok (.ifCond .eq (9), 3) := by decide +kernel
theorem d_Cr_mostCouples_77 : decode m_Cr_mostCouples.2.1 77 = .ok (.iconst 0, 1) := by decide +kernel
theorem d_Cr_mostCouples_78 : decode m_Cr_mostCouples.2.1 78 = .ok (.ior, 1) := by decide +kernel
theorem d_Cr_mostCouples_79 : decode m_Cr_mostCouples.2.1 79 = .ok (.iastore, 1) := by decide +kernel
theorem d_Cr_mostCouples_80 : decode m_Cr_mostCouples.2.1 80 = .ok (.iinc 2 (1), 3) := by decide +kernel
theorem d_Cr_mostCouples_83 : decode m_Cr_mostCouples.2.1 83 = .ok (.goto (-36), 3) := by decide +kernel
theorem d_Cr_mostCouples_71 : decode m_Cr_mostCouples.2.1 71 = .ok (.iconst 1, 1) := by decide +kernel
theorem d_Cr_mostCouples_72 : decode m_Cr_mostCouples.2.1 72 = .ok (.iload_n 2, 1) := by decide +kernel
theorem d_Cr_mostCouples_73 : decode m_Cr_mostCouples.2.1 73 = .ok (.ishl, 1) := by decide +kernel
theorem d_Cr_mostCouples_74 : decode m_Cr_mostCouples.2.1 74 = .ok (.goto (4), 3) := by decide +kernel
theorem d_T_pairs_0 : decode m_T_pairs.2.1 0 = .ok (.iload_n 1, 1) := by decide +kernel
theorem d_T_pairs_1 : decode m_T_pairs.2.1 1 = .ok (.iconst 3, 1) := by decide +kernel
theorem d_T_pairs_2 : decode m_T_pairs.2.1 2 = .ok (.invokestatic 72, 3) := by decide +kernel
theorem d_T_pairs_5 : decode m_T_pairs.2.1 5 = .ok (.ifCond .ne (5), 3) := by decide +kernel
theorem d_T_pairs_8 : decode m_T_pairs.2.1 8 = .ok (.iconst (-1), 1) := by decide +kernel
theorem d_T_pairs_9 : decode m_T_pairs.2.1 9 = .ok (.ireturn, 1) := by decide +kernel
theorem d_T_pairs_10 : decode m_T_pairs.2.1 10 = .ok (.aload_n 0, 1) := by decide +kernel
theorem d_T_pairs_11 : decode m_T_pairs.2.1 11 = .ok (.getfield 19, 3) := by decide +kernel
theorem d_T_pairs_14 : decode m_T_pairs.2.1 14 = .ok (.aload_n 0, 1) := by decide +kernel
theorem d_T_pairs_15 : decode m_T_pairs.2.1 15 = .ok (.getfield 10, 3) := by decide +kernel
theorem d_T_pairs_18 : decode m_T_pairs.2.1 18 = .ok (.invokevirtual 132, 3) := by decide +kernel
theorem d_T_pairs_21 : decode m_T_pairs.2.1 21 = .ok (.iload_n 1, 1) := by decide +kernel
theorem d_T_pairs_22 : decode m_T_pairs.2.1 22 = .ok (.ifCond .ne (13), 3) := by decide +kernel
theorem d_T_pairs_25 : decode m_T_pairs.2.1 25 = .ok (.aload_n 0, 1) := by decide +kernel
theorem d_T_pairs_26 : decode m_T_pairs.2.1 26 = .ok (.getfield 19, 3) := by decide +kernel
theorem d_T_pairs_29 : decode m_T_pairs.2.1 29 = .ok (.invokevirtual 183, 3) := by decide +kernel
theorem d_T_pairs_32 : decode m_T_pairs.2.1 32 = .ok (.goto (25), 3) := by decide +kernel
theorem d_T_pairs_57 : decode m_T_pairs.2.1 57 = .ok (.ireturn, 1) := by decide +kernel
theorem d_T_pairs_35 : decode m_T_pairs.2.1 35 = .ok (.iload_n 1, 1) := by decide +kernel
theorem d_T_pairs_36 : decode m_T_pairs.2.1 36 = .ok (.iconst 1, 1) := by decide +kernel
theorem d_T_pairs_37 : decode m_T_pairs.2.1 37 = .ok (.if_icmp .ne (13), 3) := by decide +kernel
theorem d_T_pairs_40 : decode m_T_pairs.2.1 40 = .ok (.aload_n 0, 1) := by decide +kernel
theorem d_T_pairs_41 : decode m_T_pairs.2.1 41 = .ok (.getfield 19, 3) := by decide +kernel
theorem d_T_pairs_44 : decode m_T_pairs.2.1 44 = .ok (.invokevirtual 186, 3) := by decide +kernel
theorem d_T_pairs_47 : decode m_T_pairs.2.1 47 = .ok (.goto (10), 3) := by decide +kernel
theorem d_T_pairs_50 : decode m_T_pairs.2.1 50 = .ok (.aload_n 0, 1) := by decide +kernel
theorem d_T_pairs_51 : decode m_T_pairs.2.1 51 = .ok (.getfield 19, 3) := by decide +kernel
theorem d_T_pairs_54 : decode m_T_pairs.2.1 54 = .ok (.invokevirtual 189, 3) := by decide +kernel
theorem d_Cr_happensOn_0 : decode m_Cr_happensOn.2.1 0 = .ok (.iconst 0, 1) := by decide +kernel
theorem d_Cr_happensOn_1 : decode m_Cr_happensOn.2.1 1 = .ok (.istore_n 2, 1) := by decide +kernel
theorem d_Cr_happensOn_2 : decode m_Cr_happensOn.2.1 2 = .ok (.iconst 0, 1) := by decide +kernel
theorem d_Cr_happensOn_3 : decode m_Cr_happensOn.2.1 3 = .ok (.istore_n 3, 1) := by decide +kernel
theorem d_Cr_happensOn_4 : decode m_Cr_happensOn.2.1 4 = .ok (.iconst 0, 1) := by decide +kernel
theorem d_Cr_happensOn_5 : decode m_Cr_happensOn.2.1 5 = .ok (.istore 4, 2) := by decide +kernel
theorem d_Cr_happensOn_7 : decode m_Cr_happensOn.2.1 7 = .ok (.iload 4, 2) := by decide +kernel
theorem d_Cr_happensOn_9 : decode m_Cr_happensOn.2.1 9 = .ok (.aload_n 0, 1) := by decide +kernel
theorem d_Cr_happensOn_10 : decode m_Cr_happensOn.2.1 10 = .ok (.getfield 52, 3) := by decide +kernel
theorem d_Cr_happensOn_13 : decode m_Cr_happensOn.2.1 13 = .ok (.if_icmp .ge (59), 3) := by decide +kernel
theorem d_Cr_happensOn_72 : decode m_Cr_happensOn.2.1 72 = .ok (.iload_n 2, 1) := by decide +kernel
theorem d_Cr_happensOn_73 : decode m_Cr_happensOn.2.1 73 = .ok (.ifCond .le (15), 3) := by decide +kernel
theorem d_Cr_happensOn_88 : decode m_Cr_happensOn.2.1 88 = .ok (.iconst 0, 1) := by decide +kernel
theorem d_Cr_happensOn_89 : decode m_Cr_happensOn.2.1 89 = .ok (.ireturn, 1) := by decide +kernel
theorem d_Cr_happensOn_76 : decode m_Cr_happensOn.2.1 76 = .ok (.iload_n 3, 1) := by decide +kernel
theorem d_Cr_happensOn_77 : decode m_Cr_happensOn.2.1 77 = .ok (.invokestatic 107, 3) := by decide +kernel
theorem d_Cr_happensOn_80 : decode m_Cr_happensOn.2.1 80 = .ok (.iconst 2, 1) := by decide +kernel
theorem d_Cr_happensOn_81 : decode m_Cr_happensOn.2.1 81 = .ok (.if_icmp .lt (7), 3) := by decide +kernel
theorem d_Cr_happensOn_84 : decode m_Cr_happensOn.2.1 84 = .ok (.iconst 1, 1) := by decide +kernel
theorem d_Cr_happensOn_85 : decode m_Cr_happensOn.2.1 85 = .ok (.goto (4), 3) := by decide +kernel
theorem d_Cr_happensOn_16 : decode m_Cr_happensOn.2.1 16 = .ok (.aload_n 0, 1) := by decide +kernel
theorem d_Cr_happensOn_17 : decode m_Cr_happensOn.2.1 17 = .ok (.getfield 9, 3) := by decide +kernel
theorem d_Cr_happensOn_20 : decode m_Cr_happensOn.2.1 20 = .ok (.iload 4, 2) := by decide +kernel
theorem d_Cr_happensOn_22 : decode m_Cr_happensOn.2.1 22 = .ok (.iaload, 1) := by decide +kernel
theorem d_Cr_happensOn_23 : decode m_Cr_happensOn.2.1 23 = .ok (.iload_n 1, 1) := by decide +kernel
theorem d_Cr_happensOn_24 : decode m_Cr_happensOn.2.1 24 = .ok (.isub, 1) := by decide +kernel
theorem d_Cr_happensOn_25 : decode m_Cr_happensOn.2.1 25 = .ok (.istore 5, 2) := by decide +kernel
theorem d_Cr_happensOn_27 : decode m_Cr_happensOn.2.1 27 = .ok (.iload 5, 2) := by decide +kernel
theorem d_Cr_happensOn_29 : decode m_Cr_happensOn.2.1 29 = .ok (.ifCond .lt (37), 3) := by decide +kernel
theorem d_Cr_happensOn_66 : decode m_Cr_happensOn.2.1 66 = .ok (.iinc 4 (1), 3) := by decide +kernel
theorem d_Cr_happensOn_69 : decode m_Cr_happensOn.2.1 69 = .ok (.goto (-62), 3) := by decide +kernel
theorem d_Cr_happensOn_32 : decode m_Cr_happensOn.2.1 32 = .ok (.iload 5, 2) := by decide +kernel
theorem d_Cr_happensOn_34 : decode m_Cr_happensOn.2.1 34 = .ok (.aload_n 0, 1) := by decide +kernel
theorem d_Cr_happensOn_35 : decode m_Cr_happensOn.2.1 35 = .ok (.getfield 56, 3) := by decide +kernel
theorem d_Cr_happensOn_38 : decode m_Cr_happensOn.2.1 38 = .ok (.if_icmp .gt (28), 3) := by decide +kernel
theorem d_Cr_happensOn_41 : decode m_Cr_happensOn.2.1 41 = .ok (.iload_n 3, 1) := by decide +kernel
theorem d_Cr_happensOn_42 : decode m_Cr_happensOn.2.1 42 = .ok (.iconst 1, 1) := by decide +kernel
theorem d_Cr_happensOn_43 : decode m_Cr_happensOn.2.1 43 = .ok (.aload_n 0, 1) := by decide +kernel
theorem d_Cr_happensOn_44 : decode m_Cr_happensOn.2.1 44 = .ok (.getfield 15, 3) := by decide +kernel
theorem d_Cr_happensOn_47 : decode m_Cr_happensOn.2.1 47 = .ok (.iload 4, 2) := by decide +kernel
theorem d_Cr_happensOn_49 : decode m_Cr_happensOn.2.1 49 = .ok (.iaload, 1) := by decide +kernel
theorem d_Cr_happensOn_50 : decode m_Cr_happensOn.2.1 50 = .ok (.ishl, 1) := by decide +kernel
theorem d_Cr_happensOn_51 : decode m_Cr_happensOn.2.1 51 = .ok (.ior, 1) := by decide +kernel
theorem d_Cr_happensOn_52 : decode m_Cr_happensOn.2.1 52 = .ok (.istore_n 3, 1) := by decide +kernel
theorem d_Cr_happensOn_53 : decode m_Cr_happensOn.2.1 53 = .ok (.iload_n 2, 1) := by decide +kernel
theorem d_Cr_happensOn_54 : decode m_Cr_happensOn.2.1 54 = .ok (.iload 5, 2) := by decide +kernel
theorem d_Cr_happensOn_56 : decode m_Cr_happensOn.2.1 56 = .ok (.ifCond .ne (7), 3) := by decide +kernel
theorem d_Cr_happensOn_59 : decode m_Cr_happensOn.2.1 59 = .ok (.iconst 1, 1) := by decide +kernel
theorem d_Cr_happensOn_60 : decode m_Cr_happensOn.2.1 60 = .ok (.goto (4), 3) := by decide +kernel
theorem d_Cr_happensOn_64 : decode m_Cr_happensOn.2.1 64 = .ok (.iadd, 1) := by decide +kernel
theorem d_Cr_happensOn_65 : decode m_Cr_happensOn.2.1 65 = .ok (.istore_n 2, 1) := by decide +kernel
theorem d_Cr_happensOn_63 : decode m_Cr_happensOn.2.1 63 = .ok (.iconst 0, 1) := by decide +kernel
theorem d_T_strangers_0 : decode m_T_strangers.2.1 0 = .ok (.iload_n 1, 1) := by decide +kernel
theorem d_T_strangers_1 : decode m_T_strangers.2.1 1 = .ok (.bipush (6), 2) := by decide +kernel
theorem d_T_strangers_3 : decode m_T_strangers.2.1 3 = .ok (.invokestatic 72, 3) := by decide +kernel
theorem d_T_strangers_6 : decode m_T_strangers.2.1 6 = .ok (.ifCond .ne (5), 3) := by decide +kernel
theorem d_T_strangers_9 : decode m_T_strangers.2.1 9 = .ok (.iconst (-1), 1) := by decide +kernel
theorem d_T_strangers_10 : decode m_T_strangers.2.1 10 = .ok (.ireturn, 1) := by decide +kernel
theorem d_T_strangers_11 : decode m_T_strangers.2.1 11 = .ok (.aload_n 0, 1) := by decide +kernel
theorem d_T_strangers_12 : decode m_T_strangers.2.1 12 = .ok (.getfield 19, 3) := by decide +kernel
theorem d_T_strangers_15 : decode m_T_strangers.2.1 15 = .ok (.aload_n 0, 1) := by decide +kernel
theorem d_T_strangers_16 : decode m_T_strangers.2.1 16 = .ok (.getfield 10, 3) := by decide +kernel
theorem d_T_strangers_19 : decode m_T_strangers.2.1 19 = .ok (.invokevirtual 132, 3) := by decide +kernel
theorem d_T_strangers_22 : decode m_T_strangers.2.1 22 = .ok (.aload_n 0, 1) := by decide +kernel
theorem d_T_strangers_23 : decode m_T_strangers.2.1 23 = .ok (.getfield 19, 3) := by decide +kernel
theorem d_T_strangers_26 : decode m_T_strangers.2.1 26 = .ok (.iload_n 1, 1) := by decide +kernel
theorem d_T_strangers_27 : decode m_T_strangers.2.1 27 = .ok (.invokevirtual 192, 3) := by decide +kernel
theorem d_T_strangers_30 : decode m_T_strangers.2.1 30 = .ok (.ifCond .eq (5), 3) := by decide +kernel
theorem d_T_strangers_35 : decode m_T_strangers.2.1 35 = .ok (.aload_n 0, 1) := by decide +kernel
theorem d_T_strangers_36 : decode m_T_strangers.2.1 36 = .ok (.getfield 19, 3) := by decide +kernel
theorem d_T_strangers_39 : decode m_T_strangers.2.1 39 = .ok (.iload_n 1, 1) := by decide +kernel
theorem d_T_strangers_40 : decode m_T_strangers.2.1 40 = .ok (.iload_n 1, 1) := by decide +kernel
theorem d_T_strangers_41 : decode m_T_strangers.2.1 41 = .ok (.aload_n 0, 1) := by decide +kernel
theorem d_T_strangers_42 : decode m_T_strangers.2.1 42 = .ok (.getfield 10, 3) := by decide +kernel
theorem d_T_strangers_45 : decode m_T_strangers.2.1 45 = .ok (.getfield 195, 3) := by decide +kernel
theorem d_T_strangers_48 : decode m_T_strangers.2.1 48 = .ok (.iadd, 1) := by decide +kernel
theorem d_T_strangers_49 : decode m_T_strangers.2.1 49 = .ok (.invokevirtual 143, 3) := by decide +kernel
theorem d_T_strangers_52 : decode m_T_strangers.2.1 52 = .ok (.ifCond .le (7), 3) := by decide +kernel
theorem d_T_strangers_59 : decode m_T_strangers.2.1 59 = .ok (.iconst 2, 1) := by decide +kernel
theorem d_T_strangers_60 : decode m_T_strangers.2.1 60 = .ok (.ireturn, 1) := by decide +kernel
theorem d_T_strangers_55 : decode m_T_strangers.2.1 55 = .ok (.iconst 1, 1) := by decide +kernel
theorem d_T_strangers_56 : decode m_T_strangers.2.1 56 = .ok (.goto (4), 3) := by decide +kernel
theorem d_T_strangers_33 : decode m_T_strangers.2.1 33 = .ok (.iconst 0, 1) := by decide +kernel
theorem d_T_strangers_34 : decode m_T_strangers.2.1 34 = .ok (.ireturn, 1) := by decide +kernel
theorem d_T_commonDivisor_0 : decode m_T_commonDivisor.2.1 0 = .ok (.lload_n 0, 1) := by decide +kernel
theorem d_T_commonDivisor_1 : decode m_T_commonDivisor.2.1 1 = .ok (.lstore 4, 2) := by decide +kernel
theorem d_T_commonDivisor_3 : decode m_T_commonDivisor.2.1 3 = .ok (.lload_n 2, 1) := by decide +kernel
theorem d_T_commonDivisor_4 : decode m_T_commonDivisor.2.1 4 = .ok (.lstore 6, 2) := by decide +kernel
theorem d_T_commonDivisor_6 : decode m_T_commonDivisor.2.1 6 = .ok (.iconst 0, 1) := by decide +kernel
theorem d_T_commonDivisor_7 : decode m_T_commonDivisor.2.1 7 = .ok (.istore 8, 2) := by decide +kernel
theorem d_T_commonDivisor_9 : decode m_T_commonDivisor.2.1 9 = .ok (.iload 8, 2) := by decide +kernel
theorem d_T_commonDivisor_11 : decode m_T_commonDivisor.2.1 11 = .ok (.sipush (200), 3) := by decide +kernel
theorem d_T_commonDivisor_14 : decode m_T_commonDivisor.2.1 14 = .ok (.if_icmp .ge (31), 3) := by decide +kernel
theorem d_T_commonDivisor_45 : decode m_T_commonDivisor.2.1 45 = .ok (.lload 4, 2) := by decide +kernel
theorem d_T_commonDivisor_47 : decode m_T_commonDivisor.2.1 47 = .ok (.lreturn, 1) := by decide +kernel
theorem d_T_commonDivisor_17 : decode m_T_commonDivisor.2.1 17 = .ok (.lload 6, 2) := by decide +kernel
theorem d_T_commonDivisor_19 : decode m_T_commonDivisor.2.1 19 = .ok (.lconst 0, 1) := by decide +kernel
theorem d_T_commonDivisor_20 : decode m_T_commonDivisor.2.1 20 = .ok (.lcmp, 1) := by decide +kernel
theorem d_T_commonDivisor_21 : decode m_T_commonDivisor.2.1 21 = .ok (.ifCond .eq (24), 3) := by decide +kernel
theorem d_T_commonDivisor_24 : decode m_T_commonDivisor.2.1 24 = .ok (.lload 4, 2) := by decide +kernel
theorem d_T_commonDivisor_26 : decode m_T_commonDivisor.2.1 26 = .ok (.lload 6, 2) := by decide +kernel
theorem d_T_commonDivisor_28 : decode m_T_commonDivisor.2.1 28 = .ok (.lrem, 1) := by decide +kernel
theorem d_T_commonDivisor_29 : decode m_T_commonDivisor.2.1 29 = .ok (.lstore 9, 2) := by decide +kernel
theorem d_T_commonDivisor_31 : decode m_T_commonDivisor.2.1 31 = .ok (.lload 6, 2) := by decide +kernel
theorem d_T_commonDivisor_33 : decode m_T_commonDivisor.2.1 33 = .ok (.lstore 4, 2) := by decide +kernel
theorem d_T_commonDivisor_35 : decode m_T_commonDivisor.2.1 35 = .ok (.lload 9, 2) := by decide +kernel
theorem d_T_commonDivisor_37 : decode m_T_commonDivisor.2.1 37 = .ok (.lstore 6, 2) := by decide +kernel
theorem d_T_commonDivisor_39 : decode m_T_commonDivisor.2.1 39 = .ok (.iinc 8 (1), 3) := by decide +kernel
theorem d_T_commonDivisor_42 : decode m_T_commonDivisor.2.1 42 = .ok (.goto (-33), 3) := by decide +kernel
theorem d_T_isTwo_0 : decode m_T_isTwo.2.1 0 = .ok (.aload_n 1, 1) := by decide +kernel
theorem d_T_isTwo_1 : decode m_T_isTwo.2.1 1 = .ok (.iconst 2, 1) := by decide +kernel
theorem d_T_isTwo_2 : decode m_T_isTwo.2.1 2 = .ok (.iload_n 2, 1) := by decide +kernel
theorem d_T_isTwo_3 : decode m_T_isTwo.2.1 3 = .ok (.imul, 1) := by decide +kernel
theorem d_T_isTwo_4 : decode m_T_isTwo.2.1 4 = .ok (.invokevirtual 149, 3) := by decide +kernel
theorem d_T_isTwo_7 : decode m_T_isTwo.2.1 7 = .ok (.aload_n 0, 1) := by decide +kernel
theorem d_T_isTwo_8 : decode m_T_isTwo.2.1 8 = .ok (.getfield 10, 3) := by decide +kernel
theorem d_T_isTwo_11 : decode m_T_isTwo.2.1 11 = .ok (.getfield 126, 3) := by decide +kernel
theorem d_T_isTwo_14 : decode m_T_isTwo.2.1 14 = .ok (.invokestatic 72, 3) := by decide +kernel
theorem d_T_isTwo_17 : decode m_T_isTwo.2.1 17 = .ok (.ifCond .eq (24), 3) := by decide +kernel
theorem d_T_isTwo_41 : decode m_T_isTwo.2.1 41 = .ok (.iconst 0, 1) := by decide +kernel
theorem d_T_isTwo_42 : decode m_T_isTwo.2.1 42 = .ok (.ireturn, 1) := by decide +kernel
theorem d_T_isTwo_20 : decode m_T_isTwo.2.1 20 = .ok (.aload_n 1, 1) := by decide +kernel
theorem d_T_isTwo_21 : decode m_T_isTwo.2.1 21 = .ok (.iconst 2, 1) := by decide +kernel
theorem d_T_isTwo_22 : decode m_T_isTwo.2.1 22 = .ok (.iload_n 2, 1) := by decide +kernel
theorem d_T_isTwo_23 : decode m_T_isTwo.2.1 23 = .ok (.imul, 1) := by decide +kernel
theorem d_T_isTwo_24 : decode m_T_isTwo.2.1 24 = .ok (.iconst 1, 1) := by decide +kernel
theorem d_T_isTwo_25 : decode m_T_isTwo.2.1 25 = .ok (.iadd, 1) := by decide +kernel
theorem d_T_isTwo_26 : decode m_T_isTwo.2.1 26 = .ok (.invokevirtual 149, 3) := by decide +kernel
theorem d_T_isTwo_29 : decode m_T_isTwo.2.1 29 = .ok (.bipush (6), 2) := by decide +kernel
theorem d_T_isTwo_31 : decode m_T_isTwo.2.1 31 = .ok (.invokestatic 72, 3) := by decide +kernel
theorem d_T_isTwo_34 : decode m_T_isTwo.2.1 34 = .ok (.ifCond .eq (7), 3) := by decide +kernel
theorem d_T_isTwo_37 : decode m_T_isTwo.2.1 37 = .ok (.iconst 1, 1) := by decide +kernel
theorem d_T_isTwo_38 : decode m_T_isTwo.2.1 38 = .ok (.goto (4), 3) := by decide +kernel
theorem d_T_weight_0 : decode m_T_weight.2.1 0 = .ok (.lconst 1, 1) := by decide +kernel
theorem d_T_weight_1 : decode m_T_weight.2.1 1 = .ok (.lstore_n 3, 1) := by decide +kernel
theorem d_T_weight_2 : decode m_T_weight.2.1 2 = .ok (.iconst 0, 1) := by decide +kernel
theorem d_T_weight_3 : decode m_T_weight.2.1 3 = .ok (.istore 5, 2) := by decide +kernel
theorem d_T_weight_5 : decode m_T_weight.2.1 5 = .ok (.iload 5, 2) := by decide +kernel
theorem d_T_weight_7 : decode m_T_weight.2.1 7 = .ok (.bipush (8), 2) := by decide +kernel
theorem d_T_weight_9 : decode m_T_weight.2.1 9 = .ok (.if_icmp .ge (68), 3) := by decide +kernel
theorem d_T_weight_77 : decode m_T_weight.2.1 77 = .ok (.lload_n 3, 1) := by decide +kernel
theorem d_T_weight_78 : decode m_T_weight.2.1 78 = .ok (.lreturn, 1) := by decide +kernel
theorem d_T_weight_12 : decode m_T_weight.2.1 12 = .ok (.aload_n 0, 1) := by decide +kernel
theorem d_T_weight_13 : decode m_T_weight.2.1 13 = .ok (.aload_n 1, 1) := by decide +kernel
theorem d_T_weight_14 : decode m_T_weight.2.1 14 = .ok (.iload 5, 2) := by decide +kernel
theorem d_T_weight_16 : decode m_T_weight.2.1 16 = .ok (.invokevirtual 359, 3) := by decide +kernel
theorem d_T_weight_19 : decode m_T_weight.2.1 19 = .ok (.ifCond .eq (58), 3) := by decide +kernel
theorem d_T_weight_22 : decode m_T_weight.2.1 22 = .ok (.aload_n 0, 1) := by decide +kernel
theorem d_T_weight_23 : decode m_T_weight.2.1 23 = .ok (.getfield 10, 3) := by decide +kernel
theorem d_T_weight_26 : decode m_T_weight.2.1 26 = .ok (.getfield 363, 3) := by decide +kernel
theorem d_T_weight_29 : decode m_T_weight.2.1 29 = .ok (.aload_n 1, 1) := by decide +kernel
theorem d_T_weight_30 : decode m_T_weight.2.1 30 = .ok (.iconst 2, 1) := by decide +kernel
theorem d_T_weight_31 : decode m_T_weight.2.1 31 = .ok (.iload 5, 2) := by decide +kernel
theorem d_T_weight_33 : decode m_T_weight.2.1 33 = .ok (.imul, 1) := by decide +kernel
theorem d_T_weight_34 : decode m_T_weight.2.1 34 = .ok (.invokevirtual 149, 3) := by decide +kernel
theorem d_T_weight_37 : decode m_T_weight.2.1 37 = .ok (.iaload, 1) := by decide +kernel
theorem d_T_weight_38 : decode m_T_weight.2.1 38 = .ok (.istore 6, 2) := by decide +kernel
theorem d_T_weight_40 : decode m_T_weight.2.1 40 = .ok (.lload_n 3, 1) := by decide +kernel
theorem d_T_weight_41 : decode m_T_weight.2.1 41 = .ok (.aload_n 1, 1) := by decide +kernel
theorem d_T_weight_42 : decode m_T_weight.2.1 42 = .ok (.iconst 2, 1) := by decide +kernel
theorem d_T_weight_43 : decode m_T_weight.2.1 43 = .ok (.iload 5, 2) := by decide +kernel
theorem d_T_weight_45 : decode m_T_weight.2.1 45 = .ok (.imul, 1) := by decide +kernel
theorem d_T_weight_46 : decode m_T_weight.2.1 46 = .ok (.iconst 1, 1) := by decide +kernel
theorem d_T_weight_47 : decode m_T_weight.2.1 47 = .ok (.iadd, 1) := by decide +kernel
theorem d_T_weight_48 : decode m_T_weight.2.1 48 = .ok (.invokevirtual 149, 3) := by decide +kernel
theorem d_T_weight_51 : decode m_T_weight.2.1 51 = .ok (.iload_n 2, 1) := by decide +kernel
theorem d_T_weight_52 : decode m_T_weight.2.1 52 = .ok (.if_icmp .ne (11), 3) := by decide +kernel
theorem d_T_weight_55 : decode m_T_weight.2.1 55 = .ok (.iconst 5, 1) := by decide +kernel
theorem d_T_weight_56 : decode m_T_weight.2.1 56 = .ok (.iload 6, 2) := by decide +kernel
theorem d_T_weight_58 : decode m_T_weight.2.1 58 = .ok (.imul, 1) := by decide +kernel
theorem d_T_weight_59 : decode m_T_weight.2.1 59 = .ok (.i2l, 1) := by decide +kernel
theorem d_T_weight_60 : decode m_T_weight.2.1 60 = .ok (.goto (9), 3) := by decide +kernel
theorem d_T_weight_69 : decode m_T_weight.2.1 69 = .ok (.lmul, 1) := by decide +kernel
theorem d_T_weight_70 : decode m_T_weight.2.1 70 = .ok (.lstore_n 3, 1) := by decide +kernel
theorem d_T_weight_71 : decode m_T_weight.2.1 71 = .ok (.iinc 5 (1), 3) := by decide +kernel
theorem d_T_weight_74 : decode m_T_weight.2.1 74 = .ok (.goto (-69), 3) := by decide +kernel
theorem d_T_weight_63 : decode m_T_weight.2.1 63 = .ok (.bipush (12), 2) := by decide +kernel
theorem d_T_weight_65 : decode m_T_weight.2.1 65 = .ok (.iload 6, 2) := by decide +kernel
theorem d_T_weight_67 : decode m_T_weight.2.1 67 = .ok (.isub, 1) := by decide +kernel
theorem d_T_weight_68 : decode m_T_weight.2.1 68 = .ok (.i2l, 1) := by decide +kernel
theorem d_T_likely_0 : decode m_T_likely.2.1 0 = .ok (.iload_n 1, 1) := by decide +kernel
theorem d_T_likely_1 : decode m_T_likely.2.1 1 = .ok (.bipush (6), 2) := by decide +kernel
theorem d_T_likely_3 : decode m_T_likely.2.1 3 = .ok (.invokestatic 72, 3) := by decide +kernel
theorem d_T_likely_6 : decode m_T_likely.2.1 6 = .ok (.ifCond .eq (20), 3) := by decide +kernel
theorem d_T_likely_26 : decode m_T_likely.2.1 26 = .ok (.ldc2_w 200, 3) := by decide +kernel
theorem d_T_likely_29 : decode m_T_likely.2.1 29 = .ok (.lreturn, 1) := by decide +kernel
theorem d_T_likely_9 : decode m_T_likely.2.1 9 = .ok (.iload_n 2, 1) := by decide +kernel
theorem d_T_likely_10 : decode m_T_likely.2.1 10 = .ok (.bipush (6), 2) := by decide +kernel
theorem d_T_likely_12 : decode m_T_likely.2.1 12 = .ok (.invokestatic 72, 3) := by decide +kernel
theorem d_T_likely_15 : decode m_T_likely.2.1 15 = .ok (.ifCond .eq (11), 3) := by decide +kernel
theorem d_T_likely_18 : decode m_T_likely.2.1 18 = .ok (.iload_n 3, 1) := by decide +kernel
theorem d_T_likely_19 : decode m_T_likely.2.1 19 = .ok (.iconst 2, 1) := by decide +kernel
theorem d_T_likely_20 : decode m_T_likely.2.1 20 = .ok (.invokestatic 72, 3) := by decide +kernel
theorem d_T_likely_23 : decode m_T_likely.2.1 23 = .ok (.ifCond .ne (7), 3) := by decide +kernel
theorem d_T_likely_30 : decode m_T_likely.2.1 30 = .ok (.aload_n 0, 1) := by decide +kernel
theorem d_T_likely_31 : decode m_T_likely.2.1 31 = .ok (.getfield 67, 3) := by decide +kernel
theorem d_T_likely_34 : decode m_T_likely.2.1 34 = .ok (.iload_n 1, 1) := by decide +kernel
theorem d_T_likely_35 : decode m_T_likely.2.1 35 = .ok (.aaload, 1) := by decide +kernel
theorem d_T_likely_36 : decode m_T_likely.2.1 36 = .ok (.astore 4, 2) := by decide +kernel
theorem d_T_likely_38 : decode m_T_likely.2.1 38 = .ok (.aload 4, 2) := by decide +kernel
theorem d_T_likely_40 : decode m_T_likely.2.1 40 = .ok (.invokevirtual 84, 3) := by decide +kernel
theorem d_T_likely_43 : decode m_T_likely.2.1 43 = .ok (.ifCond .ne (7), 3) := by decide +kernel
theorem d_T_likely_46 : decode m_T_likely.2.1 46 = .ok (.ldc2_w 200, 3) := by decide +kernel
theorem d_T_likely_49 : decode m_T_likely.2.1 49 = .ok (.lreturn, 1) := by decide +kernel
theorem d_T_likely_50 : decode m_T_likely.2.1 50 = .ok (.aload_n 0, 1) := by decide +kernel
theorem d_T_likely_51 : decode m_T_likely.2.1 51 = .ok (.aload 4, 2) := by decide +kernel
theorem d_T_likely_53 : decode m_T_likely.2.1 53 = .ok (.iload_n 2, 1) := by decide +kernel
theorem d_T_likely_54 : decode m_T_likely.2.1 54 = .ok (.invokevirtual 202, 3) := by decide +kernel
theorem d_T_likely_57 : decode m_T_likely.2.1 57 = .ok (.lstore 5, 2) := by decide +kernel
theorem d_T_likely_59 : decode m_T_likely.2.1 59 = .ok (.lconst 0, 1) := by decide +kernel
theorem d_T_likely_60 : decode m_T_likely.2.1 60 = .ok (.lstore 7, 2) := by decide +kernel
theorem d_T_likely_62 : decode m_T_likely.2.1 62 = .ok (.iconst 0, 1) := by decide +kernel
theorem d_T_likely_63 : decode m_T_likely.2.1 63 = .ok (.istore 9, 2) := by decide +kernel
theorem d_T_likely_65 : decode m_T_likely.2.1 65 = .ok (.iload 9, 2) := by decide +kernel
theorem d_T_likely_67 : decode m_T_likely.2.1 67 = .ok (.bipush (6), 2) := by decide +kernel
theorem d_T_likely_69 : decode m_T_likely.2.1 69 = .ok (.if_icmp .ge (22), 3) := by decide +kernel
theorem d_T_likely_91 : decode m_T_likely.2.1 91 = .ok (.lload 7, 2) := by decide +kernel
theorem d_T_likely_93 : decode m_T_likely.2.1 93 = .ok (.lload 5, 2) := by decide +kernel
theorem d_T_likely_95 : decode m_T_likely.2.1 95 = .ok (.invokestatic 206, 3) := by decide +kernel
theorem d_T_likely_98 : decode m_T_likely.2.1 98 = .ok (.lstore 9, 2) := by decide +kernel
theorem d_T_likely_100 : decode m_T_likely.2.1 100 = .ok (.lload 9, 2) := by decide +kernel
theorem d_T_likely_102 : decode m_T_likely.2.1 102 = .ok (.lconst 0, 1) := by decide +kernel
theorem d_T_likely_103 : decode m_T_likely.2.1 103 = .ok (.lcmp, 1) := by decide +kernel
theorem d_T_likely_104 : decode m_T_likely.2.1 104 = .ok (.ifCond .ne (6), 3) := by decide +kernel
theorem d_T_likely_107 : decode m_T_likely.2.1 107 = .ok (.iload_n 3, 1) := by decide +kernel
theorem d_T_likely_108 : decode m_T_likely.2.1 108 = .ok (.i2l, 1) := by decide +kernel
theorem d_T_likely_109 : decode m_T_likely.2.1 109 = .ok (.lreturn, 1) := by decide +kernel
theorem d_T_likely_110 : decode m_T_likely.2.1 110 = .ok (.iload_n 3, 1) := by decide +kernel
theorem d_T_likely_111 : decode m_T_likely.2.1 111 = .ok (.ifCond .ne (8), 3) := by decide +kernel
theorem d_T_likely_114 : decode m_T_likely.2.1 114 = .ok (.lload 5, 2) := by decide +kernel
theorem d_T_likely_116 : decode m_T_likely.2.1 116 = .ok (.goto (5), 3) := by decide +kernel
theorem d_T_likely_121 : decode m_T_likely.2.1 121 = .ok (.lload 9, 2) := by decide +kernel
theorem d_T_likely_123 : decode m_T_likely.2.1 123 = .ok (.ldiv, 1) := by decide +kernel
theorem d_T_likely_124 : decode m_T_likely.2.1 124 = .ok (.lreturn, 1) := by decide +kernel
theorem d_T_likely_119 : decode m_T_likely.2.1 119 = .ok (.lload 7, 2) := by decide +kernel
theorem d_T_likely_72 : decode m_T_likely.2.1 72 = .ok (.lload 7, 2) := by decide +kernel
theorem d_T_likely_74 : decode m_T_likely.2.1 74 = .ok (.aload_n 0, 1) := by decide +kernel
theorem d_T_likely_75 : decode m_T_likely.2.1 75 = .ok (.aload 4, 2) := by decide +kernel
theorem d_T_likely_77 : decode m_T_likely.2.1 77 = .ok (.iload 9, 2) := by decide +kernel
theorem d_T_likely_79 : decode m_T_likely.2.1 79 = .ok (.invokevirtual 202, 3) := by decide +kernel
theorem d_T_likely_82 : decode m_T_likely.2.1 82 = .ok (.ladd, 1) := by decide +kernel
theorem d_T_likely_83 : decode m_T_likely.2.1 83 = .ok (.lstore 7, 2) := by decide +kernel
theorem d_T_likely_85 : decode m_T_likely.2.1 85 = .ok (.iinc 9 (1), 3) := by decide +kernel
theorem d_T_likely_88 : decode m_T_likely.2.1 88 = .ok (.goto (-23), 3) := by decide +kernel
theorem d_T_sayingOtherwise_0 : decode m_T_sayingOtherwise.2.1 0 = .ok (.iconst 0, 1) := by decide +kernel
theorem d_T_sayingOtherwise_1 : decode m_T_sayingOtherwise.2.1 1 = .ok (.istore_n 3, 1) := by decide +kernel
theorem d_T_sayingOtherwise_2 : decode m_T_sayingOtherwise.2.1 2 = .ok (.iconst 0, 1) := by decide +kernel
theorem d_T_sayingOtherwise_3 : decode m_T_sayingOtherwise.2.1 3 = .ok (.istore 4, 2) := by decide +kernel
theorem d_T_sayingOtherwise_5 : decode m_T_sayingOtherwise.2.1 5 = .ok (.iload 4, 2) := by decide +kernel
theorem d_T_sayingOtherwise_7 : decode m_T_sayingOtherwise.2.1 7 = .ok (.bipush (8), 2) := by decide +kernel
theorem d_T_sayingOtherwise_9 : decode m_T_sayingOtherwise.2.1 9 = .ok (.if_icmp .ge (41), 3) := by decide +kernel
theorem d_T_sayingOtherwise_50 : decode m_T_sayingOtherwise.2.1 50 = .ok (.iload_n 3, 1) := by decide +kernel
theorem d_T_sayingOtherwise_51 : decode m_T_sayingOtherwise.2.1 51 = .ok (.ireturn, 1) := by decide +kernel
theorem d_T_sayingOtherwise_12 : decode m_T_sayingOtherwise.2.1 12 = .ok (.aload_n 0, 1) := by decide +kernel
theorem d_T_sayingOtherwise_13 : decode m_T_sayingOtherwise.2.1 13 = .ok (.aload_n 1, 1) := by decide +kernel
theorem d_T_sayingOtherwise_14 : decode m_T_sayingOtherwise.2.1 14 = .ok (.iload 4, 2) := by decide +kernel
theorem d_T_sayingOtherwise_16 : decode m_T_sayingOtherwise.2.1 16 = .ok (.invokevirtual 359, 3) := by decide +kernel
theorem d_T_sayingOtherwise_19 : decode m_T_sayingOtherwise.2.1 19 = .ok (.ifCond .eq (31), 3) := by decide +kernel
theorem d_T_sayingOtherwise_22 : decode m_T_sayingOtherwise.2.1 22 = .ok (.iload_n 3, 1) := by decide +kernel
theorem d_T_sayingOtherwise_23 : decode m_T_sayingOtherwise.2.1 23 = .ok (.aload_n 1, 1) := by decide +kernel
theorem d_T_sayingOtherwise_24 : decode m_T_sayingOtherwise.2.1 24 = .ok (.iconst 2, 1) := by decide +kernel
theorem d_T_sayingOtherwise_25 : decode m_T_sayingOtherwise.2.1 25 = .ok (.iload 4, 2) := by decide +kernel
theorem d_T_sayingOtherwise_27 : decode m_T_sayingOtherwise.2.1 27 = .ok (.imul, 1) := by decide +kernel
theorem d_T_sayingOtherwise_28 : decode m_T_sayingOtherwise.2.1 28 = .ok (.iconst 1, 1) := by decide +kernel
theorem d_T_sayingOtherwise_29 : decode m_T_sayingOtherwise.2.1 29 = .ok (.iadd, 1) := by decide +kernel
theorem d_T_sayingOtherwise_30 : decode m_T_sayingOtherwise.2.1 30 = .ok (.invokevirtual 149, 3) := by decide +kernel
theorem d_T_sayingOtherwise_33 : decode m_T_sayingOtherwise.2.1 33 = .ok (.iload_n 2, 1) := by decide +kernel
theorem d_T_sayingOtherwise_34 : decode m_T_sayingOtherwise.2.1 34 = .ok (.if_icmp .eq (7), 3) := by decide +kernel
theorem d_T_sayingOtherwise_41 : decode m_T_sayingOtherwise.2.1 41 = .ok (.iconst 0, 1) := by decide +kernel
theorem d_T_sayingOtherwise_42 : decode m_T_sayingOtherwise.2.1 42 = .ok (.iadd, 1) := by decide +kernel
theorem d_T_sayingOtherwise_43 : decode m_T_sayingOtherwise.2.1 43 = .ok (.istore_n 3, 1) := by decide +kernel
theorem d_T_sayingOtherwise_44 : decode m_T_sayingOtherwise.2.1 44 = .ok (.iinc 4 (1), 3) := by decide +kernel
theorem d_T_sayingOtherwise_47 : decode m_T_sayingOtherwise.2.1 47 = .ok (.goto (-42), 3) := by decide +kernel
theorem d_T_sayingOtherwise_37 : decode m_T_sayingOtherwise.2.1 37 = .ok (.iconst 1, 1) := by decide +kernel
theorem d_T_sayingOtherwise_38 : decode m_T_sayingOtherwise.2.1 38 = .ok (.goto (4), 3) := by decide +kernel
theorem d_T_liars_0 : decode m_T_liars.2.1 0 = .ok (.iload_n 1, 1) := by decide +kernel
theorem d_T_liars_1 : decode m_T_liars.2.1 1 = .ok (.bipush (6), 2) := by decide +kernel
theorem d_T_liars_3 : decode m_T_liars.2.1 3 = .ok (.invokestatic 72, 3) := by decide +kernel
theorem d_T_liars_6 : decode m_T_liars.2.1 6 = .ok (.ifCond .eq (11), 3) := by decide +kernel
theorem d_T_liars_17 : decode m_T_liars.2.1 17 = .ok (.iconst (-1), 1) := by decide +kernel
theorem d_T_liars_18 : decode m_T_liars.2.1 18 = .ok (.ireturn, 1) := by decide +kernel
theorem d_T_liars_9 : decode m_T_liars.2.1 9 = .ok (.iload_n 2, 1) := by decide +kernel
theorem d_T_liars_10 : decode m_T_liars.2.1 10 = .ok (.iconst 2, 1) := by decide +kernel
theorem d_T_liars_11 : decode m_T_liars.2.1 11 = .ok (.invokestatic 72, 3) := by decide +kernel
theorem d_T_liars_14 : decode m_T_liars.2.1 14 = .ok (.ifCond .ne (5), 3) := by decide +kernel
theorem d_T_liars_19 : decode m_T_liars.2.1 19 = .ok (.aload_n 0, 1) := by decide +kernel
theorem d_T_liars_20 : decode m_T_liars.2.1 20 = .ok (.getfield 67, 3) := by decide +kernel
theorem d_T_liars_23 : decode m_T_liars.2.1 23 = .ok (.iload_n 1, 1) := by decide +kernel
theorem d_T_liars_24 : decode m_T_liars.2.1 24 = .ok (.aaload, 1) := by decide +kernel
theorem d_T_liars_25 : decode m_T_liars.2.1 25 = .ok (.astore_n 3, 1) := by decide +kernel
theorem d_T_liars_26 : decode m_T_liars.2.1 26 = .ok (.aload_n 3, 1) := by decide +kernel
theorem d_T_liars_27 : decode m_T_liars.2.1 27 = .ok (.invokevirtual 84, 3) := by decide +kernel
theorem d_T_liars_30 : decode m_T_liars.2.1 30 = .ok (.ifCond .ne (8), 3) := by decide +kernel
theorem d_T_liars_33 : decode m_T_liars.2.1 33 = .ok (.aload_n 3, 1) := by decide +kernel
theorem d_T_liars_34 : decode m_T_liars.2.1 34 = .ok (.invokevirtual 146, 3) := by decide +kernel
theorem d_T_liars_37 : decode m_T_liars.2.1 37 = .ok (.ireturn, 1) := by decide +kernel
theorem d_T_liars_38 : decode m_T_liars.2.1 38 = .ok (.bipush (9), 2) := by decide +kernel
theorem d_T_liars_40 : decode m_T_liars.2.1 40 = .ok (.istore 4, 2) := by decide +kernel
theorem d_T_liars_42 : decode m_T_liars.2.1 42 = .ok (.iconst 0, 1) := by decide +kernel
theorem d_T_liars_43 : decode m_T_liars.2.1 43 = .ok (.istore 5, 2) := by decide +kernel
theorem d_T_liars_45 : decode m_T_liars.2.1 45 = .ok (.iconst 0, 1) := by decide +kernel
theorem d_T_liars_46 : decode m_T_liars.2.1 46 = .ok (.istore 6, 2) := by decide +kernel
theorem d_T_liars_48 : decode m_T_liars.2.1 48 = .ok (.iload 6, 2) := by decide +kernel
theorem d_T_liars_50 : decode m_T_liars.2.1 50 = .ok (.bipush (6), 2) := by decide +kernel
theorem d_T_liars_52 : decode m_T_liars.2.1 52 = .ok (.if_icmp .ge (33), 3) := by decide +kernel
theorem d_T_liars_85 : decode m_T_liars.2.1 85 = .ok (.iload_n 2, 1) := by decide +kernel
theorem d_T_liars_86 : decode m_T_liars.2.1 86 = .ok (.ifCond .ne (8), 3) := by decide +kernel
theorem d_T_liars_89 : decode m_T_liars.2.1 89 = .ok (.iload 4, 2) := by decide +kernel
theorem d_T_liars_91 : decode m_T_liars.2.1 91 = .ok (.goto (5), 3) := by decide +kernel
theorem d_T_liars_96 : decode m_T_liars.2.1 96 = .ok (.ireturn, 1) := by decide +kernel
theorem d_T_liars_94 : decode m_T_liars.2.1 94 = .ok (.iload 5, 2) := by decide +kernel
theorem d_T_liars_55 : decode m_T_liars.2.1 55 = .ok (.aload_n 0, 1) := by decide +kernel
theorem d_T_liars_56 : decode m_T_liars.2.1 56 = .ok (.aload_n 3, 1) := by decide +kernel
theorem d_T_liars_57 : decode m_T_liars.2.1 57 = .ok (.iload 6, 2) := by decide +kernel
theorem d_T_liars_59 : decode m_T_liars.2.1 59 = .ok (.invokevirtual 210, 3) := by decide +kernel
theorem d_T_liars_62 : decode m_T_liars.2.1 62 = .ok (.istore 7, 2) := by decide +kernel
theorem d_T_liars_64 : decode m_T_liars.2.1 64 = .ok (.iload 7, 2) := by decide +kernel
theorem d_T_liars_66 : decode m_T_liars.2.1 66 = .ok (.iload 4, 2) := by decide +kernel
theorem d_T_liars_68 : decode m_T_liars.2.1 68 = .ok (.if_icmp .ge (11), 3) := by decide +kernel
theorem d_T_liars_79 : decode m_T_liars.2.1 79 = .ok (.iinc 6 (1), 3) := by decide +kernel
theorem d_T_liars_82 : decode m_T_liars.2.1 82 = .ok (.goto (-34), 3) := by decide +kernel
theorem d_T_liars_71 : decode m_T_liars.2.1 71 = .ok (.iload 7, 2) := by decide +kernel
theorem d_T_liars_73 : decode m_T_liars.2.1 73 = .ok (.istore 4, 2) := by decide +kernel
theorem d_T_liars_75 : decode m_T_liars.2.1 75 = .ok (.iload 6, 2) := by decide +kernel
theorem d_T_liars_77 : decode m_T_liars.2.1 77 = .ok (.istore 5, 2) := by decide +kernel
theorem d_T_dayBehind_0 : decode m_T_dayBehind.2.1 0 = .ok (.bipush (99), 2) := by decide +kernel
theorem d_T_dayBehind_2 : decode m_T_dayBehind.2.1 2 = .ok (.aload_n 0, 1) := by decide +kernel
theorem d_T_dayBehind_3 : decode m_T_dayBehind.2.1 3 = .ok (.getfield 10, 3) := by decide +kernel
theorem d_T_dayBehind_6 : decode m_T_dayBehind.2.1 6 = .ok (.getfield 262, 3) := by decide +kernel
theorem d_T_dayBehind_9 : decode m_T_dayBehind.2.1 9 = .ok (.iload_n 1, 1) := by decide +kernel
theorem d_T_dayBehind_10 : decode m_T_dayBehind.2.1 10 = .ok (.iadd, 1) := by decide +kernel
theorem d_T_dayBehind_11 : decode m_T_dayBehind.2.1 11 = .ok (.invokestatic 271, 3) := by decide +kernel
theorem d_T_dayBehind_14 : decode m_T_dayBehind.2.1 14 = .ok (.ireturn, 1) := by decide +kernel
theorem d_T_daysOn_0 : decode m_T_daysOn.2.1 0 = .ok (.iconst 0, 1) := by decide +kernel
theorem d_T_daysOn_1 : decode m_T_daysOn.2.1 1 = .ok (.istore_n 1, 1) := by decide +kernel
theorem d_T_daysOn_2 : decode m_T_daysOn.2.1 2 = .ok (.iload_n 1, 1) := by decide +kernel
theorem d_T_daysOn_3 : decode m_T_daysOn.2.1 3 = .ok (.bipush (40), 2) := by decide +kernel
theorem d_T_daysOn_5 : decode m_T_daysOn.2.1 5 = .ok (.if_icmp .ge (22), 3) := by decide +kernel
theorem d_T_daysOn_27 : decode m_T_daysOn.2.1 27 = .ok (.iload_n 1, 1) := by decide +kernel
theorem d_T_daysOn_28 : decode m_T_daysOn.2.1 28 = .ok (.ireturn, 1) := by decide +kernel
theorem d_T_daysOn_8 : decode m_T_daysOn.2.1 8 = .ok (.aload_n 0, 1) := by decide +kernel
theorem d_T_daysOn_9 : decode m_T_daysOn.2.1 9 = .ok (.iload_n 1, 1) := by decide +kernel
theorem d_T_daysOn_10 : decode m_T_daysOn.2.1 10 = .ok (.invokevirtual 149, 3) := by decide +kernel
theorem d_T_daysOn_13 : decode m_T_daysOn.2.1 13 = .ok (.bipush (6), 2) := by decide +kernel
theorem d_T_daysOn_15 : decode m_T_daysOn.2.1 15 = .ok (.invokestatic 72, 3) := by decide +kernel
theorem d_T_daysOn_18 : decode m_T_daysOn.2.1 18 = .ok (.ifCond .eq (9), 3) := by decide +kernel
theorem d_T_daysOn_21 : decode m_T_daysOn.2.1 21 = .ok (.iinc 1 (1), 3) := by decide +kernel
theorem d_T_daysOn_24 : decode m_T_daysOn.2.1 24 = .ok (.goto (-22), 3) := by decide +kernel
theorem d_T_days_0 : decode m_T_days.2.1 0 = .ok (.iload_n 1, 1) := by decide +kernel
theorem d_T_days_1 : decode m_T_days.2.1 1 = .ok (.bipush (6), 2) := by decide +kernel
theorem d_T_days_3 : decode m_T_days.2.1 3 = .ok (.invokestatic 72, 3) := by decide +kernel
theorem d_T_days_6 : decode m_T_days.2.1 6 = .ok (.ifCond .eq (11), 3) := by decide +kernel
theorem d_T_days_17 : decode m_T_days.2.1 17 = .ok (.iconst (-1), 1) := by decide +kernel
theorem d_T_days_18 : decode m_T_days.2.1 18 = .ok (.ireturn, 1) := by decide +kernel
theorem d_T_days_9 : decode m_T_days.2.1 9 = .ok (.iload_n 2, 1) := by decide +kernel
theorem d_T_days_10 : decode m_T_days.2.1 10 = .ok (.iconst 3, 1) := by decide +kernel
theorem d_T_days_11 : decode m_T_days.2.1 11 = .ok (.invokestatic 72, 3) := by decide +kernel
theorem d_T_days_14 : decode m_T_days.2.1 14 = .ok (.ifCond .ne (5), 3) := by decide +kernel
theorem d_T_days_19 : decode m_T_days.2.1 19 = .ok (.aload_n 0, 1) := by decide +kernel
theorem d_T_days_20 : decode m_T_days.2.1 20 = .ok (.getfield 67, 3) := by decide +kernel
theorem d_T_days_23 : decode m_T_days.2.1 23 = .ok (.iload_n 1, 1) := by decide +kernel
theorem d_T_days_24 : decode m_T_days.2.1 24 = .ok (.aaload, 1) := by decide +kernel
theorem d_T_days_25 : decode m_T_days.2.1 25 = .ok (.astore_n 3, 1) := by decide +kernel
theorem d_T_days_26 : decode m_T_days.2.1 26 = .ok (.aload_n 3, 1) := by decide +kernel
theorem d_T_days_27 : decode m_T_days.2.1 27 = .ok (.invokevirtual 84, 3) := by decide +kernel
theorem d_T_days_30 : decode m_T_days.2.1 30 = .ok (.ifCond .ne (8), 3) := by decide +kernel
theorem d_T_days_33 : decode m_T_days.2.1 33 = .ok (.aload_n 3, 1) := by decide +kernel
theorem d_T_days_34 : decode m_T_days.2.1 34 = .ok (.invokevirtual 146, 3) := by decide +kernel
theorem d_T_days_37 : decode m_T_days.2.1 37 = .ok (.ireturn, 1) := by decide +kernel
theorem d_T_days_38 : decode m_T_days.2.1 38 = .ok (.iconst 0, 1) := by decide +kernel
theorem d_T_days_39 : decode m_T_days.2.1 39 = .ok (.istore 4, 2) := by decide +kernel
theorem d_T_days_41 : decode m_T_days.2.1 41 = .ok (.iconst 0, 1) := by decide +kernel
theorem d_T_days_42 : decode m_T_days.2.1 42 = .ok (.istore 5, 2) := by decide +kernel
theorem d_T_days_44 : decode m_T_days.2.1 44 = .ok (.iconst 0, 1) := by decide +kernel
theorem d_T_days_45 : decode m_T_days.2.1 45 = .ok (.istore 6, 2) := by decide +kernel
theorem d_T_days_47 : decode m_T_days.2.1 47 = .ok (.iconst 0, 1) := by decide +kernel
theorem d_T_days_48 : decode m_T_days.2.1 48 = .ok (.istore 7, 2) := by decide +kernel
theorem d_T_days_50 : decode m_T_days.2.1 50 = .ok (.aload_n 3, 1) := by decide +kernel
theorem d_T_days_51 : decode m_T_days.2.1 51 = .ok (.invokestatic 213, 3) := by decide +kernel
theorem d_T_days_54 : decode m_T_days.2.1 54 = .ok (.istore 8, 2) := by decide +kernel
theorem d_T_days_56 : decode m_T_days.2.1 56 = .ok (.iconst 0, 1) := by decide +kernel
theorem d_T_days_57 : decode m_T_days.2.1 57 = .ok (.istore 9, 2) := by decide +kernel
theorem d_T_days_59 : decode m_T_days.2.1 59 = .ok (.iload 9, 2) := by decide +kernel
theorem d_T_days_61 : decode m_T_days.2.1 61 = .ok (.iload 8, 2) := by decide +kernel
theorem d_T_days_63 : decode m_T_days.2.1 63 = .ok (.if_icmp .ge (105), 3) := by decide +kernel
theorem d_T_days_168 : decode m_T_days.2.1 168 = .ok (.iload_n 2, 1) := by decide +kernel
theorem d_T_days_169 : decode m_T_days.2.1 169 = .ok (.ifCond .ne (8), 3) := by decide +kernel
theorem d_T_days_172 : decode m_T_days.2.1 172 = .ok (.iload 4, 2) := by decide +kernel
theorem d_T_days_174 : decode m_T_days.2.1 174 = .ok (.goto (15), 3) := by decide +kernel
theorem d_T_days_189 : decode m_T_days.2.1 189 = .ok (.ireturn, 1) := by decide +kernel
theorem d_T_days_177 : decode m_T_days.2.1 177 = .ok (.iload_n 2, 1) := by decide +kernel
theorem d_T_days_178 : decode m_T_days.2.1 178 = .ok (.iconst 1, 1) := by decide +kernel
theorem d_T_days_179 : decode m_T_days.2.1 179 = .ok (.if_icmp .ne (8), 3) := by decide +kernel
theorem d_T_days_182 : decode m_T_days.2.1 182 = .ok (.iload 5, 2) := by decide +kernel
theorem d_T_days_184 : decode m_T_days.2.1 184 = .ok (.goto (5), 3) := by decide +kernel
theorem d_T_days_187 : decode m_T_days.2.1 187 = .ok (.iload 7, 2) := by decide +kernel
theorem d_T_days_66 : decode m_T_days.2.1 66 = .ok (.aload_n 0, 1) := by decide +kernel
theorem d_T_days_67 : decode m_T_days.2.1 67 = .ok (.getfield 19, 3) := by decide +kernel
theorem d_T_days_70 : decode m_T_days.2.1 70 = .ok (.aload_n 0, 1) := by decide +kernel
theorem d_T_days_71 : decode m_T_days.2.1 71 = .ok (.getfield 10, 3) := by decide +kernel
theorem d_T_days_74 : decode m_T_days.2.1 74 = .ok (.aload_n 3, 1) := by decide +kernel
theorem d_T_days_75 : decode m_T_days.2.1 75 = .ok (.iload 9, 2) := by decide +kernel
theorem d_T_days_77 : decode m_T_days.2.1 77 = .ok (.invokevirtual 149, 3) := by decide +kernel
theorem d_T_days_80 : decode m_T_days.2.1 80 = .ok (.aload_n 0, 1) := by decide +kernel
theorem d_T_days_81 : decode m_T_days.2.1 81 = .ok (.iload 9, 2) := by decide +kernel
theorem d_T_days_83 : decode m_T_days.2.1 83 = .ok (.invokevirtual 217, 3) := by decide +kernel
theorem d_T_days_86 : decode m_T_days.2.1 86 = .ok (.invokevirtual 220, 3) := by decide +kernel
theorem d_T_days_89 : decode m_T_days.2.1 89 = .ok (.aload_n 0, 1) := by decide +kernel
theorem d_T_days_90 : decode m_T_days.2.1 90 = .ok (.getfield 19, 3) := by decide +kernel
theorem d_T_days_93 : decode m_T_days.2.1 93 = .ok (.bipush (10), 2) := by decide +kernel
theorem d_T_days_95 : decode m_T_days.2.1 95 = .ok (.invokevirtual 136, 3) := by decide +kernel
theorem d_T_days_98 : decode m_T_days.2.1 98 = .ok (.istore 10, 2) := by decide +kernel
theorem d_T_days_100 : decode m_T_days.2.1 100 = .ok (.iload 4, 2) := by decide +kernel
theorem d_T_days_102 : decode m_T_days.2.1 102 = .ok (.iload 10, 2) := by decide +kernel
theorem d_T_days_104 : decode m_T_days.2.1 104 = .ok (.ifCond .eq (7), 3) := by decide +kernel
theorem d_T_days_111 : decode m_T_days.2.1 111 = .ok (.iconst 0, 1) := by decide +kernel
theorem d_T_days_112 : decode m_T_days.2.1 112 = .ok (.iadd, 1) := by decide +kernel
theorem d_T_days_113 : decode m_T_days.2.1 113 = .ok (.istore 4, 2) := by decide +kernel
theorem d_T_days_115 : decode m_T_days.2.1 115 = .ok (.iload 5, 2) := by decide +kernel
theorem d_T_days_117 : decode m_T_days.2.1 117 = .ok (.iload 10, 2) := by decide +kernel
theorem d_T_days_119 : decode m_T_days.2.1 119 = .ok (.iconst 1, 1) := by decide +kernel
theorem d_T_days_120 : decode m_T_days.2.1 120 = .ok (.aload_n 3, 1) := by decide +kernel
theorem d_T_days_121 : decode m_T_days.2.1 121 = .ok (.iload 9, 2) := by decide +kernel
theorem d_T_days_123 : decode m_T_days.2.1 123 = .ok (.invokevirtual 149, 3) := by decide +kernel
theorem d_T_days_126 : decode m_T_days.2.1 126 = .ok (.ishl, 1) := by decide +kernel
theorem d_T_days_127 : decode m_T_days.2.1 127 = .ok (.if_icmp .ne (7), 3) := by decide +kernel
theorem d_T_days_130 : decode m_T_days.2.1 130 = .ok (.iconst 1, 1) := by decide +kernel
theorem d_T_days_131 : decode m_T_days.2.1 131 = .ok (.goto (4), 3) := by decide +kernel
theorem d_T_days_135 : decode m_T_days.2.1 135 = .ok (.iadd, 1) := by decide +kernel
theorem d_T_days_136 : decode m_T_days.2.1 136 = .ok (.istore 5, 2) := by decide +kernel
theorem d_T_days_138 : decode m_T_days.2.1 138 = .ok (.iload 10, 2) := by decide +kernel
theorem d_T_days_140 : decode m_T_days.2.1 140 = .ok (.ifCond .ne (10), 3) := by decide +kernel
theorem d_T_days_143 : decode m_T_days.2.1 143 = .ok (.iload 6, 2) := by decide +kernel
theorem d_T_days_145 : decode m_T_days.2.1 145 = .ok (.iconst 1, 1) := by decide +kernel
theorem d_T_days_146 : decode m_T_days.2.1 146 = .ok (.iadd, 1) := by decide +kernel
theorem d_T_days_147 : decode m_T_days.2.1 147 = .ok (.goto (4), 3) := by decide +kernel
theorem d_T_days_151 : decode m_T_days.2.1 151 = .ok (.istore 6, 2) := by decide +kernel
theorem d_T_days_153 : decode m_T_days.2.1 153 = .ok (.iload 7, 2) := by decide +kernel
theorem d_T_days_155 : decode m_T_days.2.1 155 = .ok (.iload 6, 2) := by decide +kernel
theorem d_T_days_157 : decode m_T_days.2.1 157 = .ok (.invokestatic 224, 3) := by decide +kernel
theorem d_T_days_160 : decode m_T_days.2.1 160 = .ok (.istore 7, 2) := by decide +kernel
theorem d_T_days_162 : decode m_T_days.2.1 162 = .ok (.iinc 9 (1), 3) := by decide +kernel
theorem d_T_days_165 : decode m_T_days.2.1 165 = .ok (.goto (-106), 3) := by decide +kernel
theorem d_T_days_150 : decode m_T_days.2.1 150 = .ok (.iconst 0, 1) := by decide +kernel
theorem d_T_days_134 : decode m_T_days.2.1 134 = .ok (.iconst 0, 1) := by decide +kernel
theorem d_T_days_107 : decode m_T_days.2.1 107 = .ok (.iconst 1, 1) := by decide +kernel
theorem d_T_days_108 : decode m_T_days.2.1 108 = .ok (.goto (4), 3) := by decide +kernel
theorem d_T_areOfBytes_0 : decode m_T_areOfBytes.2.1 0 = .ok (.iload_n 1, 1) := by decide +kernel
theorem d_T_areOfBytes_1 : decode m_T_areOfBytes.2.1 1 = .ok (.bipush (6), 2) := by decide +kernel
theorem d_T_areOfBytes_3 : decode m_T_areOfBytes.2.1 3 = .ok (.invokestatic 174, 3) := by decide +kernel
theorem d_T_areOfBytes_6 : decode m_T_areOfBytes.2.1 6 = .ok (.ifCond .eq (37), 3) := by decide +kernel
theorem d_T_areOfBytes_43 : decode m_T_areOfBytes.2.1 43 = .ok (.iconst 0, 1) := by decide +kernel
theorem d_T_areOfBytes_44 : decode m_T_areOfBytes.2.1 44 = .ok (.ireturn, 1) := by decide +kernel
theorem d_T_areOfBytes_9 : decode m_T_areOfBytes.2.1 9 = .ok (.aload_n 0, 1) := by decide +kernel
theorem d_T_areOfBytes_10 : decode m_T_areOfBytes.2.1 10 = .ok (.getfield 67, 3) := by decide +kernel
theorem d_T_areOfBytes_13 : decode m_T_areOfBytes.2.1 13 = .ok (.iload_n 1, 1) := by decide +kernel
theorem d_T_areOfBytes_14 : decode m_T_areOfBytes.2.1 14 = .ok (.bipush (10), 2) := by decide +kernel
theorem d_T_areOfBytes_16 : decode m_T_areOfBytes.2.1 16 = .ok (.idiv, 1) := by decide +kernel
theorem d_T_areOfBytes_17 : decode m_T_areOfBytes.2.1 17 = .ok (.aaload, 1) := by decide +kernel
theorem d_T_areOfBytes_18 : decode m_T_areOfBytes.2.1 18 = .ok (.invokevirtual 84, 3) := by decide +kernel
theorem d_T_areOfBytes_21 : decode m_T_areOfBytes.2.1 21 = .ok (.ifCond .eq (22), 3) := by decide +kernel
theorem d_T_areOfBytes_24 : decode m_T_areOfBytes.2.1 24 = .ok (.aload_n 0, 1) := by decide +kernel
theorem d_T_areOfBytes_25 : decode m_T_areOfBytes.2.1 25 = .ok (.getfield 67, 3) := by decide +kernel
theorem d_T_areOfBytes_28 : decode m_T_areOfBytes.2.1 28 = .ok (.iload_n 1, 1) := by decide +kernel
theorem d_T_areOfBytes_29 : decode m_T_areOfBytes.2.1 29 = .ok (.bipush (10), 2) := by decide +kernel
theorem d_T_areOfBytes_31 : decode m_T_areOfBytes.2.1 31 = .ok (.irem, 1) := by decide +kernel
theorem d_T_areOfBytes_32 : decode m_T_areOfBytes.2.1 32 = .ok (.aaload, 1) := by decide +kernel
theorem d_T_areOfBytes_33 : decode m_T_areOfBytes.2.1 33 = .ok (.invokevirtual 84, 3) := by decide +kernel
theorem d_T_areOfBytes_36 : decode m_T_areOfBytes.2.1 36 = .ok (.ifCond .eq (7), 3) := by decide +kernel
theorem d_T_areOfBytes_39 : decode m_T_areOfBytes.2.1 39 = .ok (.iconst 1, 1) := by decide +kernel
theorem d_T_areOfBytes_40 : decode m_T_areOfBytes.2.1 40 = .ok (.goto (4), 3) := by decide +kernel
theorem d_T_refusalOfTwo_0 : decode m_T_refusalOfTwo.2.1 0 = .ok (.iload_n 1, 1) := by decide +kernel
theorem d_T_refusalOfTwo_1 : decode m_T_refusalOfTwo.2.1 1 = .ok (.bipush (6), 2) := by decide +kernel
theorem d_T_refusalOfTwo_3 : decode m_T_refusalOfTwo.2.1 3 = .ok (.invokestatic 174, 3) := by decide +kernel
theorem d_T_refusalOfTwo_6 : decode m_T_refusalOfTwo.2.1 6 = .ok (.ifCond .ne (5), 3) := by decide +kernel
theorem d_T_refusalOfTwo_9 : decode m_T_refusalOfTwo.2.1 9 = .ok (.iconst (-1), 1) := by decide +kernel
theorem d_T_refusalOfTwo_10 : decode m_T_refusalOfTwo.2.1 10 = .ok (.ireturn, 1) := by decide +kernel
theorem d_T_refusalOfTwo_11 : decode m_T_refusalOfTwo.2.1 11 = .ok (.aload_n 0, 1) := by decide +kernel
theorem d_T_refusalOfTwo_12 : decode m_T_refusalOfTwo.2.1 12 = .ok (.getfield 67, 3) := by decide +kernel
theorem d_T_refusalOfTwo_15 : decode m_T_refusalOfTwo.2.1 15 = .ok (.iload_n 1, 1) := by decide +kernel
theorem d_T_refusalOfTwo_16 : decode m_T_refusalOfTwo.2.1 16 = .ok (.bipush (10), 2) := by decide +kernel
theorem d_T_refusalOfTwo_18 : decode m_T_refusalOfTwo.2.1 18 = .ok (.idiv, 1) := by decide +kernel
theorem d_T_refusalOfTwo_19 : decode m_T_refusalOfTwo.2.1 19 = .ok (.aaload, 1) := by decide +kernel
theorem d_T_refusalOfTwo_20 : decode m_T_refusalOfTwo.2.1 20 = .ok (.invokevirtual 84, 3) := by decide +kernel
theorem d_T_refusalOfTwo_23 : decode m_T_refusalOfTwo.2.1 23 = .ok (.ifCond .eq (18), 3) := by decide +kernel
theorem d_T_refusalOfTwo_41 : decode m_T_refusalOfTwo.2.1 41 = .ok (.aload_n 0, 1) := by decide +kernel
theorem d_T_refusalOfTwo_42 : decode m_T_refusalOfTwo.2.1 42 = .ok (.getfield 67, 3) := by decide +kernel
theorem d_T_refusalOfTwo_45 : decode m_T_refusalOfTwo.2.1 45 = .ok (.iload_n 1, 1) := by decide +kernel
theorem d_T_refusalOfTwo_46 : decode m_T_refusalOfTwo.2.1 46 = .ok (.bipush (10), 2) := by decide +kernel
theorem d_T_refusalOfTwo_48 : decode m_T_refusalOfTwo.2.1 48 = .ok (.idiv, 1) := by decide +kernel
theorem d_T_refusalOfTwo_49 : decode m_T_refusalOfTwo.2.1 49 = .ok (.aaload, 1) := by decide +kernel
theorem d_T_refusalOfTwo_50 : decode m_T_refusalOfTwo.2.1 50 = .ok (.invokevirtual 146, 3) := by decide +kernel
theorem d_T_refusalOfTwo_53 : decode m_T_refusalOfTwo.2.1 53 = .ok (.ireturn, 1) := by decide +kernel
theorem d_T_refusalOfTwo_26 : decode m_T_refusalOfTwo.2.1 26 = .ok (.aload_n 0, 1) := by decide +kernel
theorem d_T_refusalOfTwo_27 : decode m_T_refusalOfTwo.2.1 27 = .ok (.getfield 67, 3) := by decide +kernel
theorem d_T_refusalOfTwo_30 : decode m_T_refusalOfTwo.2.1 30 = .ok (.iload_n 1, 1) := by decide +kernel
theorem d_T_refusalOfTwo_31 : decode m_T_refusalOfTwo.2.1 31 = .ok (.bipush (10), 2) := by decide +kernel
theorem d_T_refusalOfTwo_33 : decode m_T_refusalOfTwo.2.1 33 = .ok (.irem, 1) := by decide +kernel
theorem d_T_refusalOfTwo_34 : decode m_T_refusalOfTwo.2.1 34 = .ok (.aaload, 1) := by decide +kernel
theorem d_T_refusalOfTwo_35 : decode m_T_refusalOfTwo.2.1 35 = .ok (.invokevirtual 146, 3) := by decide +kernel
theorem d_T_refusalOfTwo_38 : decode m_T_refusalOfTwo.2.1 38 = .ok (.goto (15), 3) := by decide +kernel
theorem d_T_judge_0 : decode m_T_judge.2.1 0 = .ok (.iload_n 1, 1) := by decide +kernel
theorem d_T_judge_1 : decode m_T_judge.2.1 1 = .ok (.bipush (6), 2) := by decide +kernel
theorem d_T_judge_3 : decode m_T_judge.2.1 3 = .ok (.invokestatic 174, 3) := by decide +kernel
theorem d_T_judge_6 : decode m_T_judge.2.1 6 = .ok (.ifCond .ne (5), 3) := by decide +kernel
theorem d_T_judge_9 : decode m_T_judge.2.1 9 = .ok (.iconst (-1), 1) := by decide +kernel
theorem d_T_judge_10 : decode m_T_judge.2.1 10 = .ok (.ireturn, 1) := by decide +kernel
theorem d_T_judge_11 : decode m_T_judge.2.1 11 = .ok (.aload_n 0, 1) := by decide +kernel
theorem d_T_judge_12 : decode m_T_judge.2.1 12 = .ok (.iload_n 1, 1) := by decide +kernel
theorem d_T_judge_13 : decode m_T_judge.2.1 13 = .ok (.invokevirtual 229, 3) := by decide +kernel
theorem d_T_judge_16 : decode m_T_judge.2.1 16 = .ok (.ifCond .ne (9), 3) := by decide +kernel
theorem d_T_judge_19 : decode m_T_judge.2.1 19 = .ok (.aload_n 0, 1) := by decide +kernel
theorem d_T_judge_20 : decode m_T_judge.2.1 20 = .ok (.iload_n 1, 1) := by decide +kernel
theorem d_T_judge_21 : decode m_T_judge.2.1 21 = .ok (.invokevirtual 232, 3) := by decide +kernel
theorem d_T_judge_24 : decode m_T_judge.2.1 24 = .ok (.ireturn, 1) := by decide +kernel
theorem d_T_judge_25 : decode m_T_judge.2.1 25 = .ok (.aload_n 0, 1) := by decide +kernel
theorem d_T_judge_26 : decode m_T_judge.2.1 26 = .ok (.getfield 67, 3) := by decide +kernel
theorem d_T_judge_29 : decode m_T_judge.2.1 29 = .ok (.iload_n 1, 1) := by decide +kernel
theorem d_T_judge_30 : decode m_T_judge.2.1 30 = .ok (.bipush (10), 2) := by decide +kernel
theorem d_T_judge_32 : decode m_T_judge.2.1 32 = .ok (.idiv, 1) := by decide +kernel
theorem d_T_judge_33 : decode m_T_judge.2.1 33 = .ok (.aaload, 1) := by decide +kernel
theorem d_T_judge_34 : decode m_T_judge.2.1 34 = .ok (.astore_n 2, 1) := by decide +kernel
theorem d_T_judge_35 : decode m_T_judge.2.1 35 = .ok (.aload_n 0, 1) := by decide +kernel
theorem d_T_judge_36 : decode m_T_judge.2.1 36 = .ok (.getfield 67, 3) := by decide +kernel
theorem d_T_judge_39 : decode m_T_judge.2.1 39 = .ok (.iload_n 1, 1) := by decide +kernel
theorem d_T_judge_40 : decode m_T_judge.2.1 40 = .ok (.bipush (10), 2) := by decide +kernel
theorem d_T_judge_42 : decode m_T_judge.2.1 42 = .ok (.irem, 1) := by decide +kernel
theorem d_T_judge_43 : decode m_T_judge.2.1 43 = .ok (.aaload, 1) := by decide +kernel
theorem d_T_judge_44 : decode m_T_judge.2.1 44 = .ok (.astore_n 3, 1) := by decide +kernel
theorem d_T_judge_45 : decode m_T_judge.2.1 45 = .ok (.aload_n 2, 1) := by decide +kernel
theorem d_T_judge_46 : decode m_T_judge.2.1 46 = .ok (.invokestatic 213, 3) := by decide +kernel
theorem d_T_judge_49 : decode m_T_judge.2.1 49 = .ok (.istore 4, 2) := by decide +kernel
theorem d_T_judge_51 : decode m_T_judge.2.1 51 = .ok (.iconst 0, 1) := by decide +kernel
theorem d_T_judge_52 : decode m_T_judge.2.1 52 = .ok (.istore 5, 2) := by decide +kernel
theorem d_T_judge_54 : decode m_T_judge.2.1 54 = .ok (.iload 5, 2) := by decide +kernel
theorem d_T_judge_56 : decode m_T_judge.2.1 56 = .ok (.aload_n 3, 1) := by decide +kernel
theorem d_T_judge_57 : decode m_T_judge.2.1 57 = .ok (.getfield 235, 3) := by decide +kernel
theorem d_T_judge_60 : decode m_T_judge.2.1 60 = .ok (.if_icmp .ge (63), 3) := by decide +kernel
theorem d_T_judge_123 : decode m_T_judge.2.1 123 = .ok (.bipush (-2), 2) := by decide +kernel
theorem d_T_judge_125 : decode m_T_judge.2.1 125 = .ok (.ireturn, 1) := by decide +kernel
theorem d_T_judge_63 : decode m_T_judge.2.1 63 = .ok (.iload 5, 2) := by decide +kernel
theorem d_T_judge_65 : decode m_T_judge.2.1 65 = .ok (.iload 4, 2) := by decide +kernel
theorem d_T_judge_67 : decode m_T_judge.2.1 67 = .ok (.if_icmp .lt (6), 3) := by decide +kernel
theorem d_T_judge_73 : decode m_T_judge.2.1 73 = .ok (.aload_n 0, 1) := by decide +kernel
theorem d_T_judge_74 : decode m_T_judge.2.1 74 = .ok (.getfield 19, 3) := by decide +kernel
theorem d_T_judge_77 : decode m_T_judge.2.1 77 = .ok (.aload_n 0, 1) := by decide +kernel
theorem d_T_judge_78 : decode m_T_judge.2.1 78 = .ok (.getfield 10, 3) := by decide +kernel
theorem d_T_judge_81 : decode m_T_judge.2.1 81 = .ok (.aload_n 2, 1) := by decide +kernel
theorem d_T_judge_82 : decode m_T_judge.2.1 82 = .ok (.iload 5, 2) := by decide +kernel
theorem d_T_judge_84 : decode m_T_judge.2.1 84 = .ok (.invokevirtual 149, 3) := by decide +kernel
theorem d_T_judge_87 : decode m_T_judge.2.1 87 = .ok (.aload_n 0, 1) := by decide +kernel
theorem d_T_judge_88 : decode m_T_judge.2.1 88 = .ok (.iload 5, 2) := by decide +kernel
theorem d_T_judge_90 : decode m_T_judge.2.1 90 = .ok (.invokevirtual 217, 3) := by decide +kernel
theorem d_T_judge_93 : decode m_T_judge.2.1 93 = .ok (.invokevirtual 220, 3) := by decide +kernel
theorem d_T_judge_96 : decode m_T_judge.2.1 96 = .ok (.aload_n 0, 1) := by decide +kernel
theorem d_T_judge_97 : decode m_T_judge.2.1 97 = .ok (.getfield 19, 3) := by decide +kernel
theorem d_T_judge_100 : decode m_T_judge.2.1 100 = .ok (.bipush (10), 2) := by decide +kernel
theorem d_T_judge_102 : decode m_T_judge.2.1 102 = .ok (.invokevirtual 136, 3) := by decide +kernel
theorem d_T_judge_105 : decode m_T_judge.2.1 105 = .ok (.aload_n 3, 1) := by decide +kernel
theorem d_T_judge_106 : decode m_T_judge.2.1 106 = .ok (.iload 5, 2) := by decide +kernel
theorem d_T_judge_108 : decode m_T_judge.2.1 108 = .ok (.invokevirtual 149, 3) := by decide +kernel
theorem d_T_judge_111 : decode m_T_judge.2.1 111 = .ok (.if_icmp .eq (6), 3) := by decide +kernel
theorem d_T_judge_117 : decode m_T_judge.2.1 117 = .ok (.iinc 5 (1), 3) := by decide +kernel
theorem d_T_judge_120 : decode m_T_judge.2.1 120 = .ok (.goto (-66), 3) := by decide +kernel
theorem d_T_judge_114 : decode m_T_judge.2.1 114 = .ok (.iload 5, 2) := by decide +kernel
theorem d_T_judge_116 : decode m_T_judge.2.1 116 = .ok (.ireturn, 1) := by decide +kernel
theorem d_T_judge_70 : decode m_T_judge.2.1 70 = .ok (.iload 5, 2) := by decide +kernel
theorem d_T_judge_72 : decode m_T_judge.2.1 72 = .ok (.ireturn, 1) := by decide +kernel
theorem d_T_fitting_0 : decode m_T_fitting.2.1 0 = .ok (.iload 4, 2) := by decide +kernel
theorem d_T_fitting_2 : decode m_T_fitting.2.1 2 = .ok (.ifCond .eq (8), 3) := by decide +kernel
theorem d_T_fitting_10 : decode m_T_fitting.2.1 10 = .ok (.bipush (13), 2) := by decide +kernel
theorem d_T_fitting_12 : decode m_T_fitting.2.1 12 = .ok (.istore 5, 2) := by decide +kernel
theorem d_T_fitting_14 : decode m_T_fitting.2.1 14 = .ok (.iconst 1, 1) := by decide +kernel
theorem d_T_fitting_15 : decode m_T_fitting.2.1 15 = .ok (.iload 5, 2) := by decide +kernel
theorem d_T_fitting_17 : decode m_T_fitting.2.1 17 = .ok (.ishl, 1) := by decide +kernel
theorem d_T_fitting_18 : decode m_T_fitting.2.1 18 = .ok (.iconst 1, 1) := by decide +kernel
theorem d_T_fitting_19 : decode m_T_fitting.2.1 19 = .ok (.isub, 1) := by decide +kernel
theorem d_T_fitting_20 : decode m_T_fitting.2.1 20 = .ok (.istore 6, 2) := by decide +kernel
theorem d_T_fitting_22 : decode m_T_fitting.2.1 22 = .ok (.aload_n 1, 1) := by decide +kernel
theorem d_T_fitting_23 : decode m_T_fitting.2.1 23 = .ok (.invokestatic 213, 3) := by decide +kernel
theorem d_T_fitting_26 : decode m_T_fitting.2.1 26 = .ok (.istore 7, 2) := by decide +kernel
theorem d_T_fitting_28 : decode m_T_fitting.2.1 28 = .ok (.iconst 0, 1) := by decide +kernel
theorem d_T_fitting_29 : decode m_T_fitting.2.1 29 = .ok (.istore 8, 2) := by decide +kernel
theorem d_T_fitting_31 : decode m_T_fitting.2.1 31 = .ok (.iload 8, 2) := by decide +kernel
theorem d_T_fitting_33 : decode m_T_fitting.2.1 33 = .ok (.aload_n 2, 1) := by decide +kernel
theorem d_T_fitting_34 : decode m_T_fitting.2.1 34 = .ok (.getfield 235, 3) := by decide +kernel
theorem d_T_fitting_37 : decode m_T_fitting.2.1 37 = .ok (.if_icmp .ge (177), 3) := by decide +kernel
theorem d_T_fitting_214 : decode m_T_fitting.2.1 214 = .ok (.iload 6, 2) := by decide +kernel
theorem d_T_fitting_216 : decode m_T_fitting.2.1 216 = .ok (.ireturn, 1) := by decide +kernel
theorem d_T_fitting_40 : decode m_T_fitting.2.1 40 = .ok (.iload 6, 2) := by decide +kernel
theorem d_T_fitting_42 : decode m_T_fitting.2.1 42 = .ok (.ifCond .eq (172), 3) := by decide +kernel
theorem d_T_fitting_45 : decode m_T_fitting.2.1 45 = .ok (.iload 8, 2) := by decide +kernel
theorem d_T_fitting_47 : decode m_T_fitting.2.1 47 = .ok (.iload 7, 2) := by decide +kernel
theorem d_T_fitting_49 : decode m_T_fitting.2.1 49 = .ok (.if_icmp .lt (5), 3) := by decide +kernel
theorem d_T_fitting_54 : decode m_T_fitting.2.1 54 = .ok (.aload_n 0, 1) := by decide +kernel
theorem d_T_fitting_55 : decode m_T_fitting.2.1 55 = .ok (.iload 8, 2) := by decide +kernel
theorem d_T_fitting_57 : decode m_T_fitting.2.1 57 = .ok (.invokevirtual 217, 3) := by decide +kernel
theorem d_T_fitting_60 : decode m_T_fitting.2.1 60 = .ok (.istore 9, 2) := by decide +kernel
theorem d_T_fitting_62 : decode m_T_fitting.2.1 62 = .ok (.aload_n 0, 1) := by decide +kernel
theorem d_T_fitting_63 : decode m_T_fitting.2.1 63 = .ok (.getfield 19, 3) := by decide +kernel
theorem d_T_fitting_66 : decode m_T_fitting.2.1 66 = .ok (.aload_n 0, 1) := by decide +kernel
theorem d_T_fitting_67 : decode m_T_fitting.2.1 67 = .ok (.getfield 10, 3) := by decide +kernel
theorem d_T_fitting_70 : decode m_T_fitting.2.1 70 = .ok (.aload_n 1, 1) := by decide +kernel
theorem d_T_fitting_71 : decode m_T_fitting.2.1 71 = .ok (.iload 8, 2) := by decide +kernel
theorem d_T_fitting_73 : decode m_T_fitting.2.1 73 = .ok (.invokevirtual 149, 3) := by decide +kernel
theorem d_T_fitting_76 : decode m_T_fitting.2.1 76 = .ok (.iload 9, 2) := by decide +kernel
theorem d_T_fitting_78 : decode m_T_fitting.2.1 78 = .ok (.invokevirtual 220, 3) := by decide +kernel
theorem d_T_fitting_81 : decode m_T_fitting.2.1 81 = .ok (.iconst 0, 1) := by decide +kernel
theorem d_T_fitting_82 : decode m_T_fitting.2.1 82 = .ok (.istore 10, 2) := by decide +kernel
theorem d_T_fitting_84 : decode m_T_fitting.2.1 84 = .ok (.iload 10, 2) := by decide +kernel
theorem d_T_fitting_86 : decode m_T_fitting.2.1 86 = .ok (.iload 5, 2) := by decide +kernel
theorem d_T_fitting_88 : decode m_T_fitting.2.1 88 = .ok (.if_icmp .ge (120), 3) := by decide +kernel
theorem d_T_fitting_208 : decode m_T_fitting.2.1 208 = .ok (.iinc 8 (1), 3) := by decide +kernel
theorem d_T_fitting_211 : decode m_T_fitting.2.1 211 = .ok (.goto (-180), 3) := by decide +kernel
theorem d_T_fitting_91 : decode m_T_fitting.2.1 91 = .ok (.iload 4, 2) := by decide +kernel
theorem d_T_fitting_93 : decode m_T_fitting.2.1 93 = .ok (.ifCond .eq (8), 3) := by decide +kernel
theorem d_T_fitting_101 : decode m_T_fitting.2.1 101 = .ok (.aload_n 0, 1) := by decide +kernel
theorem d_T_fitting_102 : decode m_T_fitting.2.1 102 = .ok (.getfield 10, 3) := by decide +kernel
theorem d_T_fitting_105 : decode m_T_fitting.2.1 105 = .ok (.getfield 366, 3) := by decide +kernel
theorem d_T_fitting_108 : decode m_T_fitting.2.1 108 = .ok (.iload_n 3, 1) := by decide +kernel
theorem d_T_fitting_109 : decode m_T_fitting.2.1 109 = .ok (.iaload, 1) := by decide +kernel
theorem d_T_fitting_110 : decode m_T_fitting.2.1 110 = .ok (.istore 11, 2) := by decide +kernel
theorem d_T_fitting_112 : decode m_T_fitting.2.1 112 = .ok (.iload 4, 2) := by decide +kernel
theorem d_T_fitting_114 : decode m_T_fitting.2.1 114 = .ok (.ifCond .eq (15), 3) := by decide +kernel
theorem d_T_fitting_129 : decode m_T_fitting.2.1 129 = .ok (.iload 10, 2) := by decide +kernel
theorem d_T_fitting_131 : decode m_T_fitting.2.1 131 = .ok (.istore 12, 2) := by decide +kernel
theorem d_T_fitting_133 : decode m_T_fitting.2.1 133 = .ok (.aload_n 0, 1) := by decide +kernel
theorem d_T_fitting_134 : decode m_T_fitting.2.1 134 = .ok (.getfield 19, 3) := by decide +kernel
theorem d_T_fitting_137 : decode m_T_fitting.2.1 137 = .ok (.getfield 369, 3) := by decide +kernel
theorem d_T_fitting_140 : decode m_T_fitting.2.1 140 = .ok (.iload_n 3, 1) := by decide +kernel
theorem d_T_fitting_141 : decode m_T_fitting.2.1 141 = .ok (.iload 11, 2) := by decide +kernel
theorem d_T_fitting_143 : decode m_T_fitting.2.1 143 = .ok (.iastore, 1) := by decide +kernel
theorem d_T_fitting_144 : decode m_T_fitting.2.1 144 = .ok (.aload_n 0, 1) := by decide +kernel
theorem d_T_fitting_145 : decode m_T_fitting.2.1 145 = .ok (.getfield 19, 3) := by decide +kernel
theorem d_T_fitting_148 : decode m_T_fitting.2.1 148 = .ok (.getfield 370, 3) := by decide +kernel
theorem d_T_fitting_151 : decode m_T_fitting.2.1 151 = .ok (.iload_n 3, 1) := by decide +kernel
theorem d_T_fitting_152 : decode m_T_fitting.2.1 152 = .ok (.aload_n 0, 1) := by decide +kernel
theorem d_T_fitting_153 : decode m_T_fitting.2.1 153 = .ok (.getfield 10, 3) := by decide +kernel
theorem d_T_fitting_156 : decode m_T_fitting.2.1 156 = .ok (.iload_n 3, 1) := by decide +kernel
theorem d_T_fitting_157 : decode m_T_fitting.2.1 157 = .ok (.iload 11, 2) := by decide +kernel
theorem d_T_fitting_159 : decode m_T_fitting.2.1 159 = .ok (.iload 12, 2) := by decide +kernel
theorem d_T_fitting_161 : decode m_T_fitting.2.1 161 = .ok (.aload_n 1, 1) := by decide +kernel
theorem d_T_fitting_162 : decode m_T_fitting.2.1 162 = .ok (.iload 8, 2) := by decide +kernel
theorem d_T_fitting_164 : decode m_T_fitting.2.1 164 = .ok (.invokevirtual 149, 3) := by decide +kernel
theorem d_T_fitting_167 : decode m_T_fitting.2.1 167 = .ok (.iload 9, 2) := by decide +kernel
theorem d_T_fitting_169 : decode m_T_fitting.2.1 169 = .ok (.invokevirtual 373, 3) := by decide +kernel
theorem d_T_fitting_172 : decode m_T_fitting.2.1 172 = .ok (.iastore, 1) := by decide +kernel
theorem d_T_fitting_173 : decode m_T_fitting.2.1 173 = .ok (.aload_n 0, 1) := by decide +kernel
theorem d_T_fitting_174 : decode m_T_fitting.2.1 174 = .ok (.getfield 19, 3) := by decide +kernel
theorem d_T_fitting_177 : decode m_T_fitting.2.1 177 = .ok (.bipush (10), 2) := by decide +kernel
theorem d_T_fitting_179 : decode m_T_fitting.2.1 179 = .ok (.invokevirtual 136, 3) := by decide +kernel
theorem d_T_fitting_182 : decode m_T_fitting.2.1 182 = .ok (.aload_n 2, 1) := by decide +kernel
theorem d_T_fitting_183 : decode m_T_fitting.2.1 183 = .ok (.iload 8, 2) := by decide +kernel
theorem d_T_fitting_185 : decode m_T_fitting.2.1 185 = .ok (.invokevirtual 149, 3) := by decide +kernel
theorem d_T_fitting_188 : decode m_T_fitting.2.1 188 = .ok (.if_icmp .eq (14), 3) := by decide +kernel
theorem d_T_fitting_202 : decode m_T_fitting.2.1 202 = .ok (.iinc 10 (1), 3) := by decide +kernel
theorem d_T_fitting_205 : decode m_T_fitting.2.1 205 = .ok (.goto (-121), 3) := by decide +kernel
theorem d_T_fitting_191 : decode m_T_fitting.2.1 191 = .ok (.iload 6, 2) := by decide +kernel
theorem d_T_fitting_193 : decode m_T_fitting.2.1 193 = .ok (.iconst 1, 1) := by decide +kernel
theorem d_T_fitting_194 : decode m_T_fitting.2.1 194 = .ok (.iload 10, 2) := by decide +kernel
theorem d_T_fitting_196 : decode m_T_fitting.2.1 196 = .ok (.ishl, 1) := by decide +kernel
theorem d_T_fitting_197 : decode m_T_fitting.2.1 197 = .ok (.iconst (-1), 1) := by decide +kernel
theorem d_T_fitting_198 : decode m_T_fitting.2.1 198 = .ok (.ixor, 1) := by decide +kernel
theorem d_T_fitting_199 : decode m_T_fitting.2.1 199 = .ok (.iand, 1) := by decide +kernel
theorem d_T_fitting_200 : decode m_T_fitting.2.1 200 = .ok (.istore 6, 2) := by decide +kernel
theorem d_T_fitting_117 : decode m_T_fitting.2.1 117 = .ok (.aload_n 0, 1) := by decide +kernel
theorem d_T_fitting_118 : decode m_T_fitting.2.1 118 = .ok (.getfield 10, 3) := by decide +kernel
theorem d_T_fitting_121 : decode m_T_fitting.2.1 121 = .ok (.getfield 363, 3) := by decide +kernel
theorem d_T_fitting_124 : decode m_T_fitting.2.1 124 = .ok (.iload_n 3, 1) := by decide +kernel
theorem d_T_fitting_125 : decode m_T_fitting.2.1 125 = .ok (.iaload, 1) := by decide +kernel
theorem d_T_fitting_126 : decode m_T_fitting.2.1 126 = .ok (.goto (5), 3) := by decide +kernel
theorem d_T_fitting_96 : decode m_T_fitting.2.1 96 = .ok (.iload 10, 2) := by decide +kernel
theorem d_T_fitting_98 : decode m_T_fitting.2.1 98 = .ok (.goto (12), 3) := by decide +kernel
theorem d_T_fitting_52 : decode m_T_fitting.2.1 52 = .ok (.iconst 0, 1) := by decide +kernel
theorem d_T_fitting_53 : decode m_T_fitting.2.1 53 = .ok (.ireturn, 1) := by decide +kernel
theorem d_T_fitting_5 : decode m_T_fitting.2.1 5 = .ok (.bipush (8), 2) := by decide +kernel
theorem d_T_fitting_7 : decode m_T_fitting.2.1 7 = .ok (.goto (5), 3) := by decide +kernel
theorem d_T_fits_0 : decode m_T_fits.2.1 0 = .ok (.iload_n 1, 1) := by decide +kernel
theorem d_T_fits_1 : decode m_T_fits.2.1 1 = .ok (.bipush (6), 2) := by decide +kernel
theorem d_T_fits_3 : decode m_T_fits.2.1 3 = .ok (.invokestatic 174, 3) := by decide +kernel
theorem d_T_fits_6 : decode m_T_fits.2.1 6 = .ok (.ifCond .eq (25), 3) := by decide +kernel
theorem d_T_fits_31 : decode m_T_fits.2.1 31 = .ok (.iconst (-1), 1) := by decide +kernel
theorem d_T_fits_32 : decode m_T_fits.2.1 32 = .ok (.ireturn, 1) := by decide +kernel
theorem d_T_fits_9 : decode m_T_fits.2.1 9 = .ok (.iload_n 2, 1) := by decide +kernel
theorem d_T_fits_10 : decode m_T_fits.2.1 10 = .ok (.aload_n 0, 1) := by decide +kernel
theorem d_T_fits_11 : decode m_T_fits.2.1 11 = .ok (.getfield 10, 3) := by decide +kernel
theorem d_T_fits_14 : decode m_T_fits.2.1 14 = .ok (.getfield 126, 3) := by decide +kernel
theorem d_T_fits_17 : decode m_T_fits.2.1 17 = .ok (.invokestatic 72, 3) := by decide +kernel
theorem d_T_fits_20 : decode m_T_fits.2.1 20 = .ok (.ifCond .eq (11), 3) := by decide +kernel
theorem d_T_fits_23 : decode m_T_fits.2.1 23 = .ok (.iload_n 3, 1) := by decide +kernel
theorem d_T_fits_24 : decode m_T_fits.2.1 24 = .ok (.iconst 3, 1) := by decide +kernel
theorem d_T_fits_25 : decode m_T_fits.2.1 25 = .ok (.invokestatic 72, 3) := by decide +kernel
theorem d_T_fits_28 : decode m_T_fits.2.1 28 = .ok (.ifCond .ne (5), 3) := by decide +kernel
theorem d_T_fits_33 : decode m_T_fits.2.1 33 = .ok (.aload_n 0, 1) := by decide +kernel
theorem d_T_fits_34 : decode m_T_fits.2.1 34 = .ok (.iload_n 1, 1) := by decide +kernel
theorem d_T_fits_35 : decode m_T_fits.2.1 35 = .ok (.invokevirtual 229, 3) := by decide +kernel
theorem d_T_fits_38 : decode m_T_fits.2.1 38 = .ok (.ifCond .ne (9), 3) := by decide +kernel
theorem d_T_fits_41 : decode m_T_fits.2.1 41 = .ok (.aload_n 0, 1) := by decide +kernel
theorem d_T_fits_42 : decode m_T_fits.2.1 42 = .ok (.iload_n 1, 1) := by decide +kernel
theorem d_T_fits_43 : decode m_T_fits.2.1 43 = .ok (.invokevirtual 232, 3) := by decide +kernel
theorem d_T_fits_46 : decode m_T_fits.2.1 46 = .ok (.ireturn, 1) := by decide +kernel
theorem d_T_fits_47 : decode m_T_fits.2.1 47 = .ok (.aload_n 0, 1) := by decide +kernel
theorem d_T_fits_48 : decode m_T_fits.2.1 48 = .ok (.aload_n 0, 1) := by decide +kernel
theorem d_T_fits_49 : decode m_T_fits.2.1 49 = .ok (.getfield 67, 3) := by decide +kernel
theorem d_T_fits_52 : decode m_T_fits.2.1 52 = .ok (.iload_n 1, 1) := by decide +kernel
theorem d_T_fits_53 : decode m_T_fits.2.1 53 = .ok (.bipush (10), 2) := by decide +kernel
theorem d_T_fits_55 : decode m_T_fits.2.1 55 = .ok (.idiv, 1) := by decide +kernel
theorem d_T_fits_56 : decode m_T_fits.2.1 56 = .ok (.aaload, 1) := by decide +kernel
theorem d_T_fits_57 : decode m_T_fits.2.1 57 = .ok (.aload_n 0, 1) := by decide +kernel
theorem d_T_fits_58 : decode m_T_fits.2.1 58 = .ok (.getfield 67, 3) := by decide +kernel
theorem d_T_fits_61 : decode m_T_fits.2.1 61 = .ok (.iload_n 1, 1) := by decide +kernel
theorem d_T_fits_62 : decode m_T_fits.2.1 62 = .ok (.bipush (10), 2) := by decide +kernel
theorem d_T_fits_64 : decode m_T_fits.2.1 64 = .ok (.irem, 1) := by decide +kernel
theorem d_T_fits_65 : decode m_T_fits.2.1 65 = .ok (.aaload, 1) := by decide +kernel
theorem d_T_fits_66 : decode m_T_fits.2.1 66 = .ok (.iload_n 2, 1) := by decide +kernel
theorem d_T_fits_67 : decode m_T_fits.2.1 67 = .ok (.iload_n 3, 1) := by decide +kernel
theorem d_T_fits_68 : decode m_T_fits.2.1 68 = .ok (.iconst 2, 1) := by decide +kernel
theorem d_T_fits_69 : decode m_T_fits.2.1 69 = .ok (.if_icmp .ne (7), 3) := by decide +kernel
theorem d_T_fits_72 : decode m_T_fits.2.1 72 = .ok (.iconst 1, 1) := by decide +kernel
theorem d_T_fits_73 : decode m_T_fits.2.1 73 = .ok (.goto (4), 3) := by decide +kernel
theorem d_T_fits_77 : decode m_T_fits.2.1 77 = .ok (.invokevirtual 236, 3) := by decide +kernel
theorem d_T_fits_80 : decode m_T_fits.2.1 80 = .ok (.istore 4, 2) := by decide +kernel
theorem d_T_fits_82 : decode m_T_fits.2.1 82 = .ok (.iload_n 3, 1) := by decide +kernel
theorem d_T_fits_83 : decode m_T_fits.2.1 83 = .ok (.iconst 1, 1) := by decide +kernel
theorem d_T_fits_84 : decode m_T_fits.2.1 84 = .ok (.if_icmp .ne (19), 3) := by decide +kernel
theorem d_T_fits_87 : decode m_T_fits.2.1 87 = .ok (.iload 4, 2) := by decide +kernel
theorem d_T_fits_89 : decode m_T_fits.2.1 89 = .ok (.ifCond .ne (8), 3) := by decide +kernel
theorem d_T_fits_92 : decode m_T_fits.2.1 92 = .ok (.bipush (-2), 2) := by decide +kernel
theorem d_T_fits_94 : decode m_T_fits.2.1 94 = .ok (.goto (8), 3) := by decide +kernel
theorem d_T_fits_102 : decode m_T_fits.2.1 102 = .ok (.ireturn, 1) := by decide +kernel
theorem d_T_fits_97 : decode m_T_fits.2.1 97 = .ok (.iload 4, 2) := by decide +kernel
theorem d_T_fits_99 : decode m_T_fits.2.1 99 = .ok (.invokestatic 240, 3) := by decide +kernel
theorem d_T_fits_103 : decode m_T_fits.2.1 103 = .ok (.iload_n 3, 1) := by decide +kernel
theorem d_T_fits_104 : decode m_T_fits.2.1 104 = .ok (.ifCond .ne (11), 3) := by decide +kernel
theorem d_T_fits_107 : decode m_T_fits.2.1 107 = .ok (.iload 4, 2) := by decide +kernel
theorem d_T_fits_109 : decode m_T_fits.2.1 109 = .ok (.invokestatic 155, 3) := by decide +kernel
theorem d_T_fits_112 : decode m_T_fits.2.1 112 = .ok (.goto (5), 3) := by decide +kernel
theorem d_T_fits_117 : decode m_T_fits.2.1 117 = .ok (.ireturn, 1) := by decide +kernel
theorem d_T_fits_115 : decode m_T_fits.2.1 115 = .ok (.iload 4, 2) := by decide +kernel
theorem d_T_fits_76 : decode m_T_fits.2.1 76 = .ok (.iconst 0, 1) := by decide +kernel
theorem d_Br_bestBuying_0 : decode m_Br_bestBuying.2.1 0 = .ok (.aload_n 0, 1) := by decide +kernel
theorem d_Br_bestBuying_1 : decode m_Br_bestBuying.2.1 1 = .ok (.getfield 12, 3) := by decide +kernel
theorem d_Br_bestBuying_4 : decode m_Br_bestBuying.2.1 4 = .ok (.getfield 42, 3) := by decide +kernel
theorem d_Br_bestBuying_7 : decode m_Br_bestBuying.2.1 7 = .ok (.iload_n 1, 1) := by decide +kernel
theorem d_Br_bestBuying_8 : decode m_Br_bestBuying.2.1 8 = .ok (.iaload, 1) := by decide +kernel
theorem d_Br_bestBuying_9 : decode m_Br_bestBuying.2.1 9 = .ok (.istore 6, 2) := by decide +kernel
theorem d_Br_bestBuying_11 : decode m_Br_bestBuying.2.1 11 = .ok (.iload_n 2, 1) := by decide +kernel
theorem d_Br_bestBuying_12 : decode m_Br_bestBuying.2.1 12 = .ok (.iconst 2, 1) := by decide +kernel
theorem d_Br_bestBuying_13 : decode m_Br_bestBuying.2.1 13 = .ok (.irem, 1) := by decide +kernel
theorem d_Br_bestBuying_14 : decode m_Br_bestBuying.2.1 14 = .ok (.ifCond .ne (7), 3) := by decide +kernel
theorem d_Br_bestBuying_17 : decode m_Br_bestBuying.2.1 17 = .ok (.iconst 1, 1) := by decide +kernel
theorem d_Br_bestBuying_18 : decode m_Br_bestBuying.2.1 18 = .ok (.goto (4), 3) := by decide +kernel
theorem d_Br_bestBuying_22 : decode m_Br_bestBuying.2.1 22 = .ok (.istore 7, 2) := by decide +kernel
theorem d_Br_bestBuying_24 : decode m_Br_bestBuying.2.1 24 = .ok (.aload_n 0, 1) := by decide +kernel
theorem d_Br_bestBuying_25 : decode m_Br_bestBuying.2.1 25 = .ok (.dup, 1) := by decide +kernel
theorem d_Br_bestBuying_26 : decode m_Br_bestBuying.2.1 26 = .ok (.getfield 26, 3) := by decide +kernel
theorem d_Br_bestBuying_29 : decode m_Br_bestBuying.2.1 29 = .ok (.iconst 1, 1) := by decide +kernel
theorem d_Br_bestBuying_30 : decode m_Br_bestBuying.2.1 30 = .ok (.iload_n 1, 1) := by decide +kernel
theorem d_Br_bestBuying_31 : decode m_Br_bestBuying.2.1 31 = .ok (.ishl, 1) := by decide +kernel
theorem d_Br_bestBuying_32 : decode m_Br_bestBuying.2.1 32 = .ok (.iconst (-1), 1) := by decide +kernel
theorem d_Br_bestBuying_33 : decode m_Br_bestBuying.2.1 33 = .ok (.ixor, 1) := by decide +kernel
theorem d_Br_bestBuying_34 : decode m_Br_bestBuying.2.1 34 = .ok (.iand, 1) := by decide +kernel
theorem d_Br_bestBuying_35 : decode m_Br_bestBuying.2.1 35 = .ok (.putfield 26, 3) := by decide +kernel
theorem d_Br_bestBuying_38 : decode m_Br_bestBuying.2.1 38 = .ok (.aload_n 0, 1) := by decide +kernel
theorem d_Br_bestBuying_39 : decode m_Br_bestBuying.2.1 39 = .ok (.getfield 12, 3) := by decide +kernel
theorem d_Br_bestBuying_42 : decode m_Br_bestBuying.2.1 42 = .ok (.getfield 42, 3) := by decide +kernel
theorem d_Br_bestBuying_45 : decode m_Br_bestBuying.2.1 45 = .ok (.iload_n 1, 1) := by decide +kernel
theorem d_Br_bestBuying_46 : decode m_Br_bestBuying.2.1 46 = .ok (.iload 7, 2) := by decide +kernel
theorem d_Br_bestBuying_48 : decode m_Br_bestBuying.2.1 48 = .ok (.ifCond .eq (10), 3) := by decide +kernel
theorem d_Br_bestBuying_58 : decode m_Br_bestBuying.2.1 58 = .ok (.aload_n 0, 1) := by decide +kernel
theorem d_Br_bestBuying_59 : decode m_Br_bestBuying.2.1 59 = .ok (.getfield 74, 3) := by decide +kernel
theorem d_Br_bestBuying_62 : decode m_Br_bestBuying.2.1 62 = .ok (.iconst 1, 1) := by decide +kernel
theorem d_Br_bestBuying_63 : decode m_Br_bestBuying.2.1 63 = .ok (.iadd, 1) := by decide +kernel
theorem d_Br_bestBuying_64 : decode m_Br_bestBuying.2.1 64 = .ok (.bipush (6), 2) := by decide +kernel
theorem d_Br_bestBuying_66 : decode m_Br_bestBuying.2.1 66 = .ok (.irem, 1) := by decide +kernel
theorem d_Br_bestBuying_67 : decode m_Br_bestBuying.2.1 67 = .ok (.iastore, 1) := by decide +kernel
theorem d_Br_bestBuying_68 : decode m_Br_bestBuying.2.1 68 = .ok (.aload_n 0, 1) := by decide +kernel
theorem d_Br_bestBuying_69 : decode m_Br_bestBuying.2.1 69 = .ok (.iload_n 2, 1) := by decide +kernel
theorem d_Br_bestBuying_70 : decode m_Br_bestBuying.2.1 70 = .ok (.iconst 1, 1) := by decide +kernel
theorem d_Br_bestBuying_71 : decode m_Br_bestBuying.2.1 71 = .ok (.iadd, 1) := by decide +kernel
theorem d_Br_bestBuying_72 : decode m_Br_bestBuying.2.1 72 = .ok (.iload 7, 2) := by decide +kernel
theorem d_Br_bestBuying_74 : decode m_Br_bestBuying.2.1 74 = .ok (.ifCond .eq (14), 3) := by decide +kernel
theorem d_Br_bestBuying_88 : decode m_Br_bestBuying.2.1 88 = .ok (.iload_n 3, 1) := by decide +kernel
theorem d_Br_bestBuying_89 : decode m_Br_bestBuying.2.1 89 = .ok (.aload_n 0, 1) := by decide +kernel
theorem d_Br_bestBuying_90 : decode m_Br_bestBuying.2.1 90 = .ok (.getfield 18, 3) := by decide +kernel
theorem d_Br_bestBuying_93 : decode m_Br_bestBuying.2.1 93 = .ok (.iload_n 1, 1) := by decide +kernel
theorem d_Br_bestBuying_94 : decode m_Br_bestBuying.2.1 94 = .ok (.iaload, 1) := by decide +kernel
theorem d_Br_bestBuying_95 : decode m_Br_bestBuying.2.1 95 = .ok (.iadd, 1) := by decide +kernel
theorem d_Br_bestBuying_96 : decode m_Br_bestBuying.2.1 96 = .ok (.iload 4, 2) := by decide +kernel
theorem d_Br_bestBuying_98 : decode m_Br_bestBuying.2.1 98 = .ok (.iload 5, 2) := by decide +kernel
theorem d_Br_bestBuying_100 : decode m_Br_bestBuying.2.1 100 = .ok (.invokevirtual 84, 3) := by decide +kernel
theorem d_Br_bestBuying_103 : decode m_Br_bestBuying.2.1 103 = .ok (.istore 8, 2) := by decide +kernel
theorem d_Br_bestBuying_105 : decode m_Br_bestBuying.2.1 105 = .ok (.aload_n 0, 1) := by decide +kernel
theorem d_Br_bestBuying_106 : decode m_Br_bestBuying.2.1 106 = .ok (.getfield 12, 3) := by decide +kernel
theorem d_Br_bestBuying_109 : decode m_Br_bestBuying.2.1 109 = .ok (.getfield 42, 3) := by decide +kernel
theorem d_Br_bestBuying_112 : decode m_Br_bestBuying.2.1 112 = .ok (.iload_n 1, 1) := by decide +kernel
theorem d_Br_bestBuying_113 : decode m_Br_bestBuying.2.1 113 = .ok (.iload 6, 2) := by decide +kernel
theorem d_Br_bestBuying_115 : decode m_Br_bestBuying.2.1 115 = .ok (.iastore, 1) := by decide +kernel
theorem d_Br_bestBuying_116 : decode m_Br_bestBuying.2.1 116 = .ok (.aload_n 0, 1) := by decide +kernel
theorem d_Br_bestBuying_117 : decode m_Br_bestBuying.2.1 117 = .ok (.dup, 1) := by decide +kernel
theorem d_Br_bestBuying_118 : decode m_Br_bestBuying.2.1 118 = .ok (.getfield 26, 3) := by decide +kernel
theorem d_Br_bestBuying_121 : decode m_Br_bestBuying.2.1 121 = .ok (.iconst 1, 1) := by decide +kernel
theorem d_Br_bestBuying_122 : decode m_Br_bestBuying.2.1 122 = .ok (.iload_n 1, 1) := by decide +kernel
theorem d_Br_bestBuying_123 : decode m_Br_bestBuying.2.1 123 = .ok (.ishl, 1) := by decide +kernel
theorem d_Br_bestBuying_124 : decode m_Br_bestBuying.2.1 124 = .ok (.ior, 1) := by decide +kernel
theorem d_Br_bestBuying_125 : decode m_Br_bestBuying.2.1 125 = .ok (.putfield 26, 3) := by decide +kernel
theorem d_Br_bestBuying_128 : decode m_Br_bestBuying.2.1 128 = .ok (.iload 8, 2) := by decide +kernel
theorem d_Br_bestBuying_130 : decode m_Br_bestBuying.2.1 130 = .ok (.ireturn, 1) := by decide +kernel
theorem d_Br_bestBuying_77 : decode m_Br_bestBuying.2.1 77 = .ok (.iload_n 3, 1) := by decide +kernel
theorem d_Br_bestBuying_78 : decode m_Br_bestBuying.2.1 78 = .ok (.aload_n 0, 1) := by decide +kernel
theorem d_Br_bestBuying_79 : decode m_Br_bestBuying.2.1 79 = .ok (.getfield 18, 3) := by decide +kernel
theorem d_Br_bestBuying_82 : decode m_Br_bestBuying.2.1 82 = .ok (.iload_n 1, 1) := by decide +kernel
theorem d_Br_bestBuying_83 : decode m_Br_bestBuying.2.1 83 = .ok (.iaload, 1) := by decide +kernel
theorem d_Br_bestBuying_84 : decode m_Br_bestBuying.2.1 84 = .ok (.isub, 1) := by decide +kernel
theorem d_Br_bestBuying_85 : decode m_Br_bestBuying.2.1 85 = .ok (.goto (11), 3) := by decide +kernel
theorem d_Br_bestBuying_51 : decode m_Br_bestBuying.2.1 51 = .ok (.aload_n 0, 1) := by decide +kernel
theorem d_Br_bestBuying_52 : decode m_Br_bestBuying.2.1 52 = .ok (.getfield 74, 3) := by decide +kernel
theorem d_Br_bestBuying_55 : decode m_Br_bestBuying.2.1 55 = .ok (.goto (12), 3) := by decide +kernel
theorem d_Br_bestBuying_21 : decode m_Br_bestBuying.2.1 21 = .ok (.iconst 0, 1) := by decide +kernel
theorem d_Br_bestFrom_0 : decode m_Br_bestFrom.2.1 0 = .ok (.iload_n 1, 1) := by decide +kernel
theorem d_Br_bestFrom_1 : decode m_Br_bestFrom.2.1 1 = .ok (.aload_n 0, 1) := by decide +kernel
theorem d_Br_bestFrom_2 : decode m_Br_bestFrom.2.1 2 = .ok (.getfield 77, 3) := by decide +kernel
theorem d_Br_bestFrom_5 : decode m_Br_bestFrom.2.1 5 = .ok (.if_icmp .lt (26), 3) := by decide +kernel
theorem d_Br_bestFrom_31 : decode m_Br_bestFrom.2.1 31 = .ok (.aload_n 0, 1) := by decide +kernel
theorem d_Br_bestFrom_32 : decode m_Br_bestFrom.2.1 32 = .ok (.iload_n 1, 1) := by decide +kernel
theorem d_Br_bestFrom_33 : decode m_Br_bestFrom.2.1 33 = .ok (.iconst 1, 1) := by decide +kernel
theorem d_Br_bestFrom_34 : decode m_Br_bestFrom.2.1 34 = .ok (.iadd, 1) := by decide +kernel
theorem d_Br_bestFrom_35 : decode m_Br_bestFrom.2.1 35 = .ok (.iload_n 2, 1) := by decide +kernel
theorem d_Br_bestFrom_36 : decode m_Br_bestFrom.2.1 36 = .ok (.iload_n 3, 1) := by decide +kernel
theorem d_Br_bestFrom_37 : decode m_Br_bestFrom.2.1 37 = .ok (.iload 4, 2) := by decide +kernel
theorem d_Br_bestFrom_39 : decode m_Br_bestFrom.2.1 39 = .ok (.invokevirtual 84, 3) := by decide +kernel
theorem d_Br_bestFrom_42 : decode m_Br_bestFrom.2.1 42 = .ok (.istore 5, 2) := by decide +kernel
theorem d_Br_bestFrom_44 : decode m_Br_bestFrom.2.1 44 = .ok (.iconst 0, 1) := by decide +kernel
theorem d_Br_bestFrom_45 : decode m_Br_bestFrom.2.1 45 = .ok (.istore 6, 2) := by decide +kernel
theorem d_Br_bestFrom_47 : decode m_Br_bestFrom.2.1 47 = .ok (.iload 6, 2) := by decide +kernel
theorem d_Br_bestFrom_49 : decode m_Br_bestFrom.2.1 49 = .ok (.aload_n 0, 1) := by decide +kernel
theorem d_Br_bestFrom_50 : decode m_Br_bestFrom.2.1 50 = .ok (.getfield 12, 3) := by decide +kernel
theorem d_Br_bestFrom_53 : decode m_Br_bestFrom.2.1 53 = .ok (.getfield 30, 3) := by decide +kernel
theorem d_Br_bestFrom_56 : decode m_Br_bestFrom.2.1 56 = .ok (.if_icmp .ge (146), 3) := by decide +kernel
theorem d_Br_bestFrom_202 : decode m_Br_bestFrom.2.1 202 = .ok (.iload 5, 2) := by decide +kernel
theorem d_Br_bestFrom_204 : decode m_Br_bestFrom.2.1 204 = .ok (.ireturn, 1) := by decide +kernel
theorem d_Br_bestFrom_59 : decode m_Br_bestFrom.2.1 59 = .ok (.aload_n 0, 1) := by decide +kernel
theorem d_Br_bestFrom_60 : decode m_Br_bestFrom.2.1 60 = .ok (.getfield 26, 3) := by decide +kernel
theorem d_Br_bestFrom_63 : decode m_Br_bestFrom.2.1 63 = .ok (.iload 6, 2) := by decide +kernel
theorem d_Br_bestFrom_65 : decode m_Br_bestFrom.2.1 65 = .ok (.invokestatic 91, 3) := by decide +kernel
theorem d_Br_bestFrom_68 : decode m_Br_bestFrom.2.1 68 = .ok (.ifCond .ne (6), 3) := by decide +kernel
theorem d_Br_bestFrom_71 : decode m_Br_bestFrom.2.1 71 = .ok (.goto (125), 3) := by decide +kernel
theorem d_Br_bestFrom_196 : decode m_Br_bestFrom.2.1 196 = .ok (.iinc 6 (1), 3) := by decide +kernel
theorem d_Br_bestFrom_199 : decode m_Br_bestFrom.2.1 199 = .ok (.goto (-152), 3) := by decide +kernel
theorem d_Br_bestFrom_74 : decode m_Br_bestFrom.2.1 74 = .ok (.iload_n 1, 1) := by decide +kernel
theorem d_Br_bestFrom_75 : decode m_Br_bestFrom.2.1 75 = .ok (.iconst 2, 1) := by decide +kernel
theorem d_Br_bestFrom_76 : decode m_Br_bestFrom.2.1 76 = .ok (.irem, 1) := by decide +kernel
theorem d_Br_bestFrom_77 : decode m_Br_bestFrom.2.1 77 = .ok (.ifCond .ne (7), 3) := by decide +kernel
theorem d_Br_bestFrom_80 : decode m_Br_bestFrom.2.1 80 = .ok (.iconst 1, 1) := by decide +kernel
theorem d_Br_bestFrom_81 : decode m_Br_bestFrom.2.1 81 = .ok (.goto (4), 3) := by decide +kernel
theorem d_Br_bestFrom_85 : decode m_Br_bestFrom.2.1 85 = .ok (.istore 7, 2) := by decide +kernel
theorem d_Br_bestFrom_87 : decode m_Br_bestFrom.2.1 87 = .ok (.iload 7, 2) := by decide +kernel
theorem d_Br_bestFrom_89 : decode m_Br_bestFrom.2.1 89 = .ok (.ifCond .eq (13), 3) := by decide +kernel
theorem d_Br_bestFrom_102 : decode m_Br_bestFrom.2.1 102 = .ok (.iload 5, 2) := by decide +kernel
theorem d_Br_bestFrom_104 : decode m_Br_bestFrom.2.1 104 = .ok (.iload_n 3, 1) := by decide +kernel
theorem d_Br_bestFrom_105 : decode m_Br_bestFrom.2.1 105 = .ok (.if_icmp .gt (6), 3) := by decide +kernel
theorem d_Br_bestFrom_111 : decode m_Br_bestFrom.2.1 111 = .ok (.iload 7, 2) := by decide +kernel
theorem d_Br_bestFrom_113 : decode m_Br_bestFrom.2.1 113 = .ok (.ifCond .eq (22), 3) := by decide +kernel
theorem d_Br_bestFrom_135 : decode m_Br_bestFrom.2.1 135 = .ok (.aload_n 0, 1) := by decide +kernel
theorem d_Br_bestFrom_136 : decode m_Br_bestFrom.2.1 136 = .ok (.iload 6, 2) := by decide +kernel
theorem d_Br_bestFrom_138 : decode m_Br_bestFrom.2.1 138 = .ok (.iload_n 1, 1) := by decide +kernel
theorem d_Br_bestFrom_139 : decode m_Br_bestFrom.2.1 139 = .ok (.iload_n 2, 1) := by decide +kernel
theorem d_Br_bestFrom_140 : decode m_Br_bestFrom.2.1 140 = .ok (.iload_n 3, 1) := by decide +kernel
theorem d_Br_bestFrom_141 : decode m_Br_bestFrom.2.1 141 = .ok (.iload 4, 2) := by decide +kernel
theorem d_Br_bestFrom_143 : decode m_Br_bestFrom.2.1 143 = .ok (.iload 5, 2) := by decide +kernel
theorem d_Br_bestFrom_145 : decode m_Br_bestFrom.2.1 145 = .ok (.invokestatic 103, 3) := by decide +kernel
theorem d_Br_bestFrom_148 : decode m_Br_bestFrom.2.1 148 = .ok (.invokevirtual 99, 3) := by decide +kernel
theorem d_Br_bestFrom_151 : decode m_Br_bestFrom.2.1 151 = .ok (.istore 8, 2) := by decide +kernel
theorem d_Br_bestFrom_153 : decode m_Br_bestFrom.2.1 153 = .ok (.iload 7, 2) := by decide +kernel
theorem d_Br_bestFrom_155 : decode m_Br_bestFrom.2.1 155 = .ok (.ifCond .eq (13), 3) := by decide +kernel
theorem d_Br_bestFrom_168 : decode m_Br_bestFrom.2.1 168 = .ok (.iload 8, 2) := by decide +kernel
theorem d_Br_bestFrom_170 : decode m_Br_bestFrom.2.1 170 = .ok (.iload 5, 2) := by decide +kernel
theorem d_Br_bestFrom_172 : decode m_Br_bestFrom.2.1 172 = .ok (.if_icmp .ge (24), 3) := by decide +kernel
theorem d_Br_bestFrom_175 : decode m_Br_bestFrom.2.1 175 = .ok (.iload 8, 2) := by decide +kernel
theorem d_Br_bestFrom_177 : decode m_Br_bestFrom.2.1 177 = .ok (.istore 5, 2) := by decide +kernel
theorem d_Br_bestFrom_179 : decode m_Br_bestFrom.2.1 179 = .ok (.aload_n 0, 1) := by decide +kernel
theorem d_Br_bestFrom_180 : decode m_Br_bestFrom.2.1 180 = .ok (.iload_n 1, 1) := by decide +kernel
theorem d_Br_bestFrom_181 : decode m_Br_bestFrom.2.1 181 = .ok (.ifCond .ne (8), 3) := by decide +kernel
theorem d_Br_bestFrom_184 : decode m_Br_bestFrom.2.1 184 = .ok (.iload 6, 2) := by decide +kernel
theorem d_Br_bestFrom_186 : decode m_Br_bestFrom.2.1 186 = .ok (.goto (7), 3) := by decide +kernel
theorem d_Br_bestFrom_193 : decode m_Br_bestFrom.2.1 193 = .ok (.putfield 80, 3) := by decide +kernel
theorem d_Br_bestFrom_189 : decode m_Br_bestFrom.2.1 189 = .ok (.aload_n 0, 1) := by decide +kernel
theorem d_Br_bestFrom_190 : decode m_Br_bestFrom.2.1 190 = .ok (.getfield 80, 3) := by decide +kernel
theorem d_Br_bestFrom_158 : decode m_Br_bestFrom.2.1 158 = .ok (.iload 8, 2) := by decide +kernel
theorem d_Br_bestFrom_160 : decode m_Br_bestFrom.2.1 160 = .ok (.iload 5, 2) := by decide +kernel
theorem d_Br_bestFrom_162 : decode m_Br_bestFrom.2.1 162 = .ok (.if_icmp .le (34), 3) := by decide +kernel
theorem d_Br_bestFrom_165 : decode m_Br_bestFrom.2.1 165 = .ok (.goto (10), 3) := by decide +kernel
theorem d_Br_bestFrom_116 : decode m_Br_bestFrom.2.1 116 = .ok (.aload_n 0, 1) := by decide +kernel
theorem d_Br_bestFrom_117 : decode m_Br_bestFrom.2.1 117 = .ok (.iload 6, 2) := by decide +kernel
theorem d_Br_bestFrom_119 : decode m_Br_bestFrom.2.1 119 = .ok (.iload_n 1, 1) := by decide +kernel
theorem d_Br_bestFrom_120 : decode m_Br_bestFrom.2.1 120 = .ok (.iload_n 2, 1) := by decide +kernel
theorem d_Br_bestFrom_121 : decode m_Br_bestFrom.2.1 121 = .ok (.iload_n 3, 1) := by decide +kernel
theorem d_Br_bestFrom_122 : decode m_Br_bestFrom.2.1 122 = .ok (.iload 5, 2) := by decide +kernel
theorem d_Br_bestFrom_124 : decode m_Br_bestFrom.2.1 124 = .ok (.invokestatic 94, 3) := by decide +kernel
theorem d_Br_bestFrom_127 : decode m_Br_bestFrom.2.1 127 = .ok (.iload 4, 2) := by decide +kernel
theorem d_Br_bestFrom_129 : decode m_Br_bestFrom.2.1 129 = .ok (.invokevirtual 99, 3) := by decide +kernel
theorem d_Br_bestFrom_132 : decode m_Br_bestFrom.2.1 132 = .ok (.goto (19), 3) := by decide +kernel
theorem d_Br_bestFrom_108 : decode m_Br_bestFrom.2.1 108 = .ok (.iload 5, 2) := by decide +kernel
theorem d_Br_bestFrom_110 : decode m_Br_bestFrom.2.1 110 = .ok (.ireturn, 1) := by decide +kernel
theorem d_Br_bestFrom_92 : decode m_Br_bestFrom.2.1 92 = .ok (.iload 5, 2) := by decide +kernel
theorem d_Br_bestFrom_94 : decode m_Br_bestFrom.2.1 94 = .ok (.iload 4, 2) := by decide +kernel
theorem d_Br_bestFrom_96 : decode m_Br_bestFrom.2.1 96 = .ok (.if_icmp .lt (15), 3) := by decide +kernel
theorem d_Br_bestFrom_99 : decode m_Br_bestFrom.2.1 99 = .ok (.goto (9), 3) := by decide +kernel
theorem d_Br_bestFrom_84 : decode m_Br_bestFrom.2.1 84 = .ok (.iconst 0, 1) := by decide +kernel
theorem d_Br_bestFrom_8 : decode m_Br_bestFrom.2.1 8 = .ok (.iload_n 2, 1) := by decide +kernel
theorem d_Br_bestFrom_9 : decode m_Br_bestFrom.2.1 9 = .ok (.aload_n 0, 1) := by decide +kernel
theorem d_Br_bestFrom_10 : decode m_Br_bestFrom.2.1 10 = .ok (.getfield 12, 3) := by decide +kernel
theorem d_Br_bestFrom_13 : decode m_Br_bestFrom.2.1 13 = .ok (.aload_n 0, 1) := by decide +kernel
theorem d_Br_bestFrom_14 : decode m_Br_bestFrom.2.1 14 = .ok (.getfield 74, 3) := by decide +kernel
theorem d_Br_bestFrom_17 : decode m_Br_bestFrom.2.1 17 = .ok (.invokevirtual 88, 3) := by decide +kernel
theorem d_Br_bestFrom_20 : decode m_Br_bestFrom.2.1 20 = .ok (.ifCond .eq (8), 3) := by decide +kernel
theorem d_Br_bestFrom_28 : decode m_Br_bestFrom.2.1 28 = .ok (.iconst 0, 1) := by decide +kernel
theorem d_Br_bestFrom_29 : decode m_Br_bestFrom.2.1 29 = .ok (.iadd, 1) := by decide +kernel
theorem d_Br_bestFrom_30 : decode m_Br_bestFrom.2.1 30 = .ok (.ireturn, 1) := by decide +kernel
theorem d_Br_bestFrom_23 : decode m_Br_bestFrom.2.1 23 = .ok (.bipush (100), 2) := by decide +kernel
theorem d_Br_bestFrom_25 : decode m_Br_bestFrom.2.1 25 = .ok (.goto (4), 3) := by decide +kernel
theorem d_Br_play_0 : decode m_Br_play.2.1 0 = .ok (.aload_n 0, 1) := by decide +kernel
theorem d_Br_play_1 : decode m_Br_play.2.1 1 = .ok (.iload_n 1, 1) := by decide +kernel
theorem d_Br_play_2 : decode m_Br_play.2.1 2 = .ok (.putfield 74, 3) := by decide +kernel
theorem d_Br_play_5 : decode m_Br_play.2.1 5 = .ok (.aload_n 0, 1) := by decide +kernel
theorem d_Br_play_6 : decode m_Br_play.2.1 6 = .ok (.iload_n 2, 1) := by decide +kernel
theorem d_Br_play_7 : decode m_Br_play.2.1 7 = .ok (.putfield 77, 3) := by decide +kernel
theorem d_Br_play_10 : decode m_Br_play.2.1 10 = .ok (.aload_n 0, 1) := by decide +kernel
theorem d_Br_play_11 : decode m_Br_play.2.1 11 = .ok (.bipush (10), 2) := by decide +kernel
theorem d_Br_play_13 : decode m_Br_play.2.1 13 = .ok (.putfield 80, 3) := by decide +kernel
theorem d_Br_play_16 : decode m_Br_play.2.1 16 = .ok (.aload_n 0, 1) := by decide +kernel
theorem d_Br_play_17 : decode m_Br_play.2.1 17 = .ok (.iconst 0, 1) := by decide +kernel
theorem d_Br_play_18 : decode m_Br_play.2.1 18 = .ok (.iconst 0, 1) := by decide +kernel
theorem d_Br_play_19 : decode m_Br_play.2.1 19 = .ok (.ldc 83, 2) := by decide +kernel
theorem d_Br_play_21 : decode m_Br_play.2.1 21 = .ok (.ldc 49, 2) := by decide +kernel
theorem d_Br_play_23 : decode m_Br_play.2.1 23 = .ok (.invokevirtual 84, 3) := by decide +kernel
theorem d_Br_play_26 : decode m_Br_play.2.1 26 = .ok (.ireturn, 1) := by decide +kernel
theorem d_T_byTurns_0 : decode m_T_byTurns.2.1 0 = .ok (.iload_n 1, 1) := by decide +kernel
theorem d_T_byTurns_1 : decode m_T_byTurns.2.1 1 = .ok (.bipush (6), 2) := by decide +kernel
theorem d_T_byTurns_3 : decode m_T_byTurns.2.1 3 = .ok (.invokestatic 72, 3) := by decide +kernel
theorem d_T_byTurns_6 : decode m_T_byTurns.2.1 6 = .ok (.ifCond .eq (21), 3) := by decide +kernel
theorem d_T_byTurns_27 : decode m_T_byTurns.2.1 27 = .ok (.ldc 101, 2) := by decide +kernel
theorem d_T_byTurns_29 : decode m_T_byTurns.2.1 29 = .ok (.ireturn, 1) := by decide +kernel
theorem d_T_byTurns_9 : decode m_T_byTurns.2.1 9 = .ok (.iload_n 2, 1) := by decide +kernel
theorem d_T_byTurns_10 : decode m_T_byTurns.2.1 10 = .ok (.iconst 1, 1) := by decide +kernel
theorem d_T_byTurns_11 : decode m_T_byTurns.2.1 11 = .ok (.if_icmp .lt (16), 3) := by decide +kernel
theorem d_T_byTurns_14 : decode m_T_byTurns.2.1 14 = .ok (.iload_n 2, 1) := by decide +kernel
theorem d_T_byTurns_15 : decode m_T_byTurns.2.1 15 = .ok (.iconst 4, 1) := by decide +kernel
theorem d_T_byTurns_16 : decode m_T_byTurns.2.1 16 = .ok (.if_icmp .gt (11), 3) := by decide +kernel
theorem d_T_byTurns_19 : decode m_T_byTurns.2.1 19 = .ok (.iload_n 3, 1) := by decide +kernel
theorem d_T_byTurns_20 : decode m_T_byTurns.2.1 20 = .ok (.iconst 2, 1) := by decide +kernel
theorem d_T_byTurns_21 : decode m_T_byTurns.2.1 21 = .ok (.invokestatic 72, 3) := by decide +kernel
theorem d_T_byTurns_24 : decode m_T_byTurns.2.1 24 = .ok (.ifCond .ne (6), 3) := by decide +kernel
theorem d_T_byTurns_30 : decode m_T_byTurns.2.1 30 = .ok (.aload_n 0, 1) := by decide +kernel
theorem d_T_byTurns_31 : decode m_T_byTurns.2.1 31 = .ok (.getfield 26, 3) := by decide +kernel
theorem d_T_byTurns_34 : decode m_T_byTurns.2.1 34 = .ok (.aload_n 0, 1) := by decide +kernel
theorem d_T_byTurns_35 : decode m_T_byTurns.2.1 35 = .ok (.getfield 10, 3) := by decide +kernel
theorem d_T_byTurns_38 : decode m_T_byTurns.2.1 38 = .ok (.invokevirtual 161, 3) := by decide +kernel
theorem d_T_byTurns_41 : decode m_T_byTurns.2.1 41 = .ok (.aload_n 0, 1) := by decide +kernel
theorem d_T_byTurns_42 : decode m_T_byTurns.2.1 42 = .ok (.getfield 26, 3) := by decide +kernel
theorem d_T_byTurns_45 : decode m_T_byTurns.2.1 45 = .ok (.iload_n 1, 1) := by decide +kernel
theorem d_T_byTurns_46 : decode m_T_byTurns.2.1 46 = .ok (.iload_n 2, 1) := by decide +kernel
theorem d_T_byTurns_47 : decode m_T_byTurns.2.1 47 = .ok (.invokevirtual 243, 3) := by decide +kernel
theorem d_T_byTurns_50 : decode m_T_byTurns.2.1 50 = .ok (.istore 4, 2) := by decide +kernel
theorem d_T_byTurns_52 : decode m_T_byTurns.2.1 52 = .ok (.iload_n 3, 1) := by decide +kernel
theorem d_T_byTurns_53 : decode m_T_byTurns.2.1 53 = .ok (.ifCond .ne (8), 3) := by decide +kernel
theorem d_T_byTurns_56 : decode m_T_byTurns.2.1 56 = .ok (.iload 4, 2) := by decide +kernel
theorem d_T_byTurns_58 : decode m_T_byTurns.2.1 58 = .ok (.goto (10), 3) := by decide +kernel
theorem d_T_byTurns_68 : decode m_T_byTurns.2.1 68 = .ok (.ireturn, 1) := by decide +kernel
theorem d_T_byTurns_61 : decode m_T_byTurns.2.1 61 = .ok (.aload_n 0, 1) := by decide +kernel
theorem d_T_byTurns_62 : decode m_T_byTurns.2.1 62 = .ok (.getfield 26, 3) := by decide +kernel
theorem d_T_byTurns_65 : decode m_T_byTurns.2.1 65 = .ok (.getfield 246, 3) := by decide +kernel
theorem d_Cr_forget_0 : decode m_Cr_forget.2.1 0 = .ok (.aload_n 0, 1) := by decide +kernel
theorem d_Cr_forget_1 : decode m_Cr_forget.2.1 1 = .ok (.getfield 27, 3) := by decide +kernel
theorem d_Cr_forget_4 : decode m_Cr_forget.2.1 4 = .ok (.iconst (-1), 1) := by decide +kernel
theorem d_Cr_forget_5 : decode m_Cr_forget.2.1 5 = .ok (.invokestatic 65, 3) := by decide +kernel
theorem d_Cr_forget_8 : decode m_Cr_forget.2.1 8 = .ok (.return_, 1) := by decide +kernel
theorem d_Cr_packed_0 : decode m_Cr_packed.2.1 0 = .ok (.iconst 0, 1) := by decide +kernel
theorem d_Cr_packed_1 : decode m_Cr_packed.2.1 1 = .ok (.istore_n 1, 1) := by decide +kernel
theorem d_Cr_packed_2 : decode m_Cr_packed.2.1 2 = .ok (.iconst 0, 1) := by decide +kernel
theorem d_Cr_packed_3 : decode m_Cr_packed.2.1 3 = .ok (.istore_n 2, 1) := by decide +kernel
theorem d_Cr_packed_4 : decode m_Cr_packed.2.1 4 = .ok (.iload_n 2, 1) := by decide +kernel
theorem d_Cr_packed_5 : decode m_Cr_packed.2.1 5 = .ok (.aload_n 0, 1) := by decide +kernel
theorem d_Cr_packed_6 : decode m_Cr_packed.2.1 6 = .ok (.getfield 52, 3) := by decide +kernel
theorem d_Cr_packed_9 : decode m_Cr_packed.2.1 9 = .ok (.if_icmp .ge (22), 3) := by decide +kernel
theorem d_Cr_packed_31 : decode m_Cr_packed.2.1 31 = .ok (.iload_n 1, 1) := by decide +kernel
theorem d_Cr_packed_32 : decode m_Cr_packed.2.1 32 = .ok (.ireturn, 1) := by decide +kernel
theorem d_Cr_packed_12 : decode m_Cr_packed.2.1 12 = .ok (.iload_n 1, 1) := by decide +kernel
theorem d_Cr_packed_13 : decode m_Cr_packed.2.1 13 = .ok (.aload_n 0, 1) := by decide +kernel
theorem d_Cr_packed_14 : decode m_Cr_packed.2.1 14 = .ok (.getfield 9, 3) := by decide +kernel
theorem d_Cr_packed_17 : decode m_Cr_packed.2.1 17 = .ok (.iload_n 2, 1) := by decide +kernel
theorem d_Cr_packed_18 : decode m_Cr_packed.2.1 18 = .ok (.iaload, 1) := by decide +kernel
theorem d_Cr_packed_19 : decode m_Cr_packed.2.1 19 = .ok (.iconst 3, 1) := by decide +kernel
theorem d_Cr_packed_20 : decode m_Cr_packed.2.1 20 = .ok (.iload_n 2, 1) := by decide +kernel
theorem d_Cr_packed_21 : decode m_Cr_packed.2.1 21 = .ok (.imul, 1) := by decide +kernel
theorem d_Cr_packed_22 : decode m_Cr_packed.2.1 22 = .ok (.ishl, 1) := by decide +kernel
theorem d_Cr_packed_23 : decode m_Cr_packed.2.1 23 = .ok (.ior, 1) := by decide +kernel
theorem d_Cr_packed_24 : decode m_Cr_packed.2.1 24 = .ok (.istore_n 1, 1) := by decide +kernel
theorem d_Cr_packed_25 : decode m_Cr_packed.2.1 25 = .ok (.iinc 2 (1), 3) := by decide +kernel
theorem d_Cr_packed_28 : decode m_Cr_packed.2.1 28 = .ok (.goto (-24), 3) := by decide +kernel
theorem d_Cr_unpack_0 : decode m_Cr_unpack.2.1 0 = .ok (.iconst 0, 1) := by decide +kernel
theorem d_Cr_unpack_1 : decode m_Cr_unpack.2.1 1 = .ok (.istore_n 2, 1) := by decide +kernel
theorem d_Cr_unpack_2 : decode m_Cr_unpack.2.1 2 = .ok (.iload_n 2, 1) := by decide +kernel
theorem d_Cr_unpack_3 : decode m_Cr_unpack.2.1 3 = .ok (.aload_n 0, 1) := by decide +kernel
theorem d_Cr_unpack_4 : decode m_Cr_unpack.2.1 4 = .ok (.getfield 52, 3) := by decide +kernel
theorem d_Cr_unpack_7 : decode m_Cr_unpack.2.1 7 = .ok (.if_icmp .ge (23), 3) := by decide +kernel
theorem d_Cr_unpack_30 : decode m_Cr_unpack.2.1 30 = .ok (.return_, 1) := by decide +kernel
theorem d_Cr_unpack_10 : decode m_Cr_unpack.2.1 10 = .ok (.aload_n 0, 1) := by decide +kernel
theorem d_Cr_unpack_11 : decode m_Cr_unpack.2.1 11 = .ok (.getfield 9, 3) := by decide +kernel
theorem d_Cr_unpack_14 : decode m_Cr_unpack.2.1 14 = .ok (.iload_n 2, 1) := by decide +kernel
theorem d_Cr_unpack_15 : decode m_Cr_unpack.2.1 15 = .ok (.iload_n 1, 1) := by decide +kernel
theorem d_Cr_unpack_16 : decode m_Cr_unpack.2.1 16 = .ok (.iconst 3, 1) := by decide +kernel
theorem d_Cr_unpack_17 : decode m_Cr_unpack.2.1 17 = .ok (.iload_n 2, 1) := by decide +kernel
theorem d_Cr_unpack_18 : decode m_Cr_unpack.2.1 18 = .ok (.imul, 1) := by decide +kernel
theorem d_Cr_unpack_19 : decode m_Cr_unpack.2.1 19 = .ok (.iushr, 1) := by decide +kernel
theorem d_Cr_unpack_20 : decode m_Cr_unpack.2.1 20 = .ok (.bipush (7), 2) := by decide +kernel
theorem d_Cr_unpack_22 : decode m_Cr_unpack.2.1 22 = .ok (.iand, 1) := by decide +kernel
theorem d_Cr_unpack_23 : decode m_Cr_unpack.2.1 23 = .ok (.iastore, 1) := by decide +kernel
theorem d_Cr_unpack_24 : decode m_Cr_unpack.2.1 24 = .ok (.iinc 2 (1), 3) := by decide +kernel
theorem d_Cr_unpack_27 : decode m_Cr_unpack.2.1 27 = .ok (.goto (-25), 3) := by decide +kernel
theorem d_Cr_gatherAgain_0 : decode m_Cr_gatherAgain.2.1 0 = .ok (.aload_n 1, 1) := by decide +kernel
theorem d_Cr_gatherAgain_1 : decode m_Cr_gatherAgain.2.1 1 = .ok (.getfield 71, 3) := by decide +kernel
theorem d_Cr_gatherAgain_4 : decode m_Cr_gatherAgain.2.1 4 = .ok (.getfield 75, 3) := by decide +kernel
theorem d_Cr_gatherAgain_7 : decode m_Cr_gatherAgain.2.1 7 = .ok (.ifCond .eq (12), 3) := by decide +kernel
theorem d_Cr_gatherAgain_19 : decode m_Cr_gatherAgain.2.1 19 = .ok (.iconst 0, 1) := by decide +kernel
theorem d_Cr_gatherAgain_20 : decode m_Cr_gatherAgain.2.1 20 = .ok (.istore 4, 2) := by decide +kernel
theorem d_Cr_gatherAgain_22 : decode m_Cr_gatherAgain.2.1 22 = .ok (.iload_n 2, 1) := by decide +kernel
theorem d_Cr_gatherAgain_23 : decode m_Cr_gatherAgain.2.1 23 = .ok (.bipush (6), 2) := by decide +kernel
theorem d_Cr_gatherAgain_25 : decode m_Cr_gatherAgain.2.1 25 = .ok (.invokestatic 81, 3) := by decide +kernel
theorem d_Cr_gatherAgain_28 : decode m_Cr_gatherAgain.2.1 28 = .ok (.ifCond .eq (13), 3) := by decide +kernel
theorem d_Cr_gatherAgain_41 : decode m_Cr_gatherAgain.2.1 41 = .ok (.return_, 1) := by decide +kernel
theorem d_Cr_gatherAgain_31 : decode m_Cr_gatherAgain.2.1 31 = .ok (.iload 4, 2) := by decide +kernel
theorem d_Cr_gatherAgain_33 : decode m_Cr_gatherAgain.2.1 33 = .ok (.bipush (40), 2) := by decide +kernel
theorem d_Cr_gatherAgain_35 : decode m_Cr_gatherAgain.2.1 35 = .ok (.invokestatic 81, 3) := by decide +kernel
theorem d_Cr_gatherAgain_38 : decode m_Cr_gatherAgain.2.1 38 = .ok (.ifCond .ne (4), 3) := by decide +kernel
theorem d_Cr_gatherAgain_42 : decode m_Cr_gatherAgain.2.1 42 = .ok (.iload_n 2, 1) := by decide +kernel
theorem d_Cr_gatherAgain_43 : decode m_Cr_gatherAgain.2.1 43 = .ok (.bipush (40), 2) := by decide +kernel
theorem d_Cr_gatherAgain_45 : decode m_Cr_gatherAgain.2.1 45 = .ok (.imul, 1) := by decide +kernel
theorem d_Cr_gatherAgain_46 : decode m_Cr_gatherAgain.2.1 46 = .ok (.iload 4, 2) := by decide +kernel
theorem d_Cr_gatherAgain_48 : decode m_Cr_gatherAgain.2.1 48 = .ok (.iadd, 1) := by decide +kernel
theorem d_Cr_gatherAgain_49 : decode m_Cr_gatherAgain.2.1 49 = .ok (.istore 5, 2) := by decide +kernel
theorem d_Cr_gatherAgain_51 : decode m_Cr_gatherAgain.2.1 51 = .ok (.aload_n 0, 1) := by decide +kernel
theorem d_Cr_gatherAgain_52 : decode m_Cr_gatherAgain.2.1 52 = .ok (.getfield 27, 3) := by decide +kernel
theorem d_Cr_gatherAgain_55 : decode m_Cr_gatherAgain.2.1 55 = .ok (.iload 5, 2) := by decide +kernel
theorem d_Cr_gatherAgain_57 : decode m_Cr_gatherAgain.2.1 57 = .ok (.iaload, 1) := by decide +kernel
theorem d_Cr_gatherAgain_58 : decode m_Cr_gatherAgain.2.1 58 = .ok (.iconst (-1), 1) := by decide +kernel
theorem d_Cr_gatherAgain_59 : decode m_Cr_gatherAgain.2.1 59 = .ok (.if_icmp .eq (15), 3) := by decide +kernel
theorem d_Cr_gatherAgain_74 : decode m_Cr_gatherAgain.2.1 74 = .ok (.aload_n 0, 1) := by decide +kernel
theorem d_Cr_gatherAgain_75 : decode m_Cr_gatherAgain.2.1 75 = .ok (.aload_n 1, 1) := by decide +kernel
theorem d_Cr_gatherAgain_76 : decode m_Cr_gatherAgain.2.1 76 = .ok (.iload_n 2, 1) := by decide +kernel
theorem d_Cr_gatherAgain_77 : decode m_Cr_gatherAgain.2.1 77 = .ok (.iload_n 3, 1) := by decide +kernel
theorem d_Cr_gatherAgain_78 : decode m_Cr_gatherAgain.2.1 78 = .ok (.invokevirtual 39, 3) := by decide +kernel
theorem d_Cr_gatherAgain_81 : decode m_Cr_gatherAgain.2.1 81 = .ok (.aload_n 0, 1) := by decide +kernel
theorem d_Cr_gatherAgain_82 : decode m_Cr_gatherAgain.2.1 82 = .ok (.getfield 27, 3) := by decide +kernel
theorem d_Cr_gatherAgain_85 : decode m_Cr_gatherAgain.2.1 85 = .ok (.iload 5, 2) := by decide +kernel
theorem d_Cr_gatherAgain_87 : decode m_Cr_gatherAgain.2.1 87 = .ok (.aload_n 0, 1) := by decide +kernel
theorem d_Cr_gatherAgain_88 : decode m_Cr_gatherAgain.2.1 88 = .ok (.invokevirtual 89, 3) := by decide +kernel
theorem d_Cr_gatherAgain_91 : decode m_Cr_gatherAgain.2.1 91 = .ok (.iastore, 1) := by decide +kernel
theorem d_Cr_gatherAgain_92 : decode m_Cr_gatherAgain.2.1 92 = .ok (.return_, 1) := by decide +kernel
theorem d_Cr_gatherAgain_62 : decode m_Cr_gatherAgain.2.1 62 = .ok (.aload_n 0, 1) := by decide +kernel
theorem d_Cr_gatherAgain_63 : decode m_Cr_gatherAgain.2.1 63 = .ok (.aload_n 0, 1) := by decide +kernel
theorem d_Cr_gatherAgain_64 : decode m_Cr_gatherAgain.2.1 64 = .ok (.getfield 27, 3) := by decide +kernel
theorem d_Cr_gatherAgain_67 : decode m_Cr_gatherAgain.2.1 67 = .ok (.iload 5, 2) := by decide +kernel
theorem d_Cr_gatherAgain_69 : decode m_Cr_gatherAgain.2.1 69 = .ok (.iaload, 1) := by decide +kernel
theorem d_Cr_gatherAgain_70 : decode m_Cr_gatherAgain.2.1 70 = .ok (.invokevirtual 85, 3) := by decide +kernel
theorem d_Cr_gatherAgain_73 : decode m_Cr_gatherAgain.2.1 73 = .ok (.return_, 1) := by decide +kernel
theorem d_Cr_gatherAgain_10 : decode m_Cr_gatherAgain.2.1 10 = .ok (.iload_n 3, 1) := by decide +kernel
theorem d_Cr_gatherAgain_11 : decode m_Cr_gatherAgain.2.1 11 = .ok (.aload_n 1, 1) := by decide +kernel
theorem d_Cr_gatherAgain_12 : decode m_Cr_gatherAgain.2.1 12 = .ok (.getfield 36, 3) := by decide +kernel
theorem d_Cr_gatherAgain_15 : decode m_Cr_gatherAgain.2.1 15 = .ok (.isub, 1) := by decide +kernel
theorem d_Cr_gatherAgain_16 : decode m_Cr_gatherAgain.2.1 16 = .ok (.goto (4), 3) := by decide +kernel
theorem d_T_drawn_0 : decode m_T_drawn.2.1 0 = .ok (.iload_n 2, 1) := by decide +kernel
theorem d_T_drawn_1 : decode m_T_drawn.2.1 1 = .ok (.bipush (100), 2) := by decide +kernel
theorem d_T_drawn_3 : decode m_T_drawn.2.1 3 = .ok (.idiv, 1) := by decide +kernel
theorem d_T_drawn_4 : decode m_T_drawn.2.1 4 = .ok (.istore 4, 2) := by decide +kernel
theorem d_T_drawn_6 : decode m_T_drawn.2.1 6 = .ok (.iload_n 2, 1) := by decide +kernel
theorem d_T_drawn_7 : decode m_T_drawn.2.1 7 = .ok (.bipush (100), 2) := by decide +kernel
theorem d_T_drawn_9 : decode m_T_drawn.2.1 9 = .ok (.irem, 1) := by decide +kernel
theorem d_T_drawn_10 : decode m_T_drawn.2.1 10 = .ok (.istore 5, 2) := by decide +kernel
theorem d_T_drawn_12 : decode m_T_drawn.2.1 12 = .ok (.iload 4, 2) := by decide +kernel
theorem d_T_drawn_14 : decode m_T_drawn.2.1 14 = .ok (.iconst 1, 1) := by decide +kernel
theorem d_T_drawn_15 : decode m_T_drawn.2.1 15 = .ok (.if_icmp .lt (32), 3) := by decide +kernel
theorem d_T_drawn_47 : decode m_T_drawn.2.1 47 = .ok (.iconst (-1), 1) := by decide +kernel
theorem d_T_drawn_48 : decode m_T_drawn.2.1 48 = .ok (.ireturn, 1) := by decide +kernel
theorem d_T_drawn_18 : decode m_T_drawn.2.1 18 = .ok (.iload 4, 2) := by decide +kernel
theorem d_T_drawn_20 : decode m_T_drawn.2.1 20 = .ok (.bipush (30), 2) := by decide +kernel
theorem d_T_drawn_22 : decode m_T_drawn.2.1 22 = .ok (.if_icmp .gt (25), 3) := by decide +kernel
theorem d_T_drawn_25 : decode m_T_drawn.2.1 25 = .ok (.iload 5, 2) := by decide +kernel
theorem d_T_drawn_27 : decode m_T_drawn.2.1 27 = .ok (.iconst 1, 1) := by decide +kernel
theorem d_T_drawn_28 : decode m_T_drawn.2.1 28 = .ok (.if_icmp .lt (19), 3) := by decide +kernel
theorem d_T_drawn_31 : decode m_T_drawn.2.1 31 = .ok (.iload 5, 2) := by decide +kernel
theorem d_T_drawn_33 : decode m_T_drawn.2.1 33 = .ok (.bipush (40), 2) := by decide +kernel
theorem d_T_drawn_35 : decode m_T_drawn.2.1 35 = .ok (.if_icmp .gt (12), 3) := by decide +kernel
theorem d_T_drawn_38 : decode m_T_drawn.2.1 38 = .ok (.iload_n 3, 1) := by decide +kernel
theorem d_T_drawn_39 : decode m_T_drawn.2.1 39 = .ok (.bipush (7), 2) := by decide +kernel
theorem d_T_drawn_41 : decode m_T_drawn.2.1 41 = .ok (.invokestatic 72, 3) := by decide +kernel
theorem d_T_drawn_44 : decode m_T_drawn.2.1 44 = .ok (.ifCond .ne (5), 3) := by decide +kernel
theorem d_T_drawn_49 : decode m_T_drawn.2.1 49 = .ok (.aload_n 0, 1) := by decide +kernel
theorem d_T_drawn_50 : decode m_T_drawn.2.1 50 = .ok (.getfield 19, 3) := by decide +kernel
theorem d_T_drawn_53 : decode m_T_drawn.2.1 53 = .ok (.invokevirtual 249, 3) := by decide +kernel
theorem d_T_drawn_56 : decode m_T_drawn.2.1 56 = .ok (.iload_n 1, 1) := by decide +kernel
theorem d_T_drawn_57 : decode m_T_drawn.2.1 57 = .ok (.istore 6, 2) := by decide +kernel
theorem d_T_drawn_59 : decode m_T_drawn.2.1 59 = .ok (.iconst 0, 1) := by decide +kernel
theorem d_T_drawn_60 : decode m_T_drawn.2.1 60 = .ok (.istore 7, 2) := by decide +kernel
theorem d_T_drawn_62 : decode m_T_drawn.2.1 62 = .ok (.iconst 0, 1) := by decide +kernel
theorem d_T_drawn_63 : decode m_T_drawn.2.1 63 = .ok (.istore 8, 2) := by decide +kernel
theorem d_T_drawn_65 : decode m_T_drawn.2.1 65 = .ok (.iload 8, 2) := by decide +kernel
theorem d_T_drawn_67 : decode m_T_drawn.2.1 67 = .ok (.iload 4, 2) := by decide +kernel
theorem d_T_drawn_69 : decode m_T_drawn.2.1 69 = .ok (.iload 5, 2) := by decide +kernel
theorem d_T_drawn_71 : decode m_T_drawn.2.1 71 = .ok (.imul, 1) := by decide +kernel
theorem d_T_drawn_72 : decode m_T_drawn.2.1 72 = .ok (.if_icmp .ge (110), 3) := by decide +kernel
theorem d_T_drawn_182 : decode m_T_drawn.2.1 182 = .ok (.iload 7, 2) := by decide +kernel
theorem d_T_drawn_184 : decode m_T_drawn.2.1 184 = .ok (.ireturn, 1) := by decide +kernel
theorem d_T_drawn_75 : decode m_T_drawn.2.1 75 = .ok (.iload 6, 2) := by decide +kernel
theorem d_T_drawn_77 : decode m_T_drawn.2.1 77 = .ok (.ldc 252, 2) := by decide +kernel
theorem d_T_drawn_79 : decode m_T_drawn.2.1 79 = .ok (.imul, 1) := by decide +kernel
theorem d_T_drawn_80 : decode m_T_drawn.2.1 80 = .ok (.sipush (12345), 3) := by decide +kernel
theorem d_T_drawn_83 : decode m_T_drawn.2.1 83 = .ok (.iadd, 1) := by decide +kernel
theorem d_T_drawn_84 : decode m_T_drawn.2.1 84 = .ok (.istore 6, 2) := by decide +kernel
theorem d_T_drawn_86 : decode m_T_drawn.2.1 86 = .ok (.aload_n 0, 1) := by decide +kernel
theorem d_T_drawn_87 : decode m_T_drawn.2.1 87 = .ok (.getfield 19, 3) := by decide +kernel
theorem d_T_drawn_90 : decode m_T_drawn.2.1 90 = .ok (.aload_n 0, 1) := by decide +kernel
theorem d_T_drawn_91 : decode m_T_drawn.2.1 91 = .ok (.getfield 10, 3) := by decide +kernel
theorem d_T_drawn_94 : decode m_T_drawn.2.1 94 = .ok (.iload 6, 2) := by decide +kernel
theorem d_T_drawn_96 : decode m_T_drawn.2.1 96 = .ok (.bipush (8), 2) := by decide +kernel
theorem d_T_drawn_98 : decode m_T_drawn.2.1 98 = .ok (.iushr, 1) := by decide +kernel
theorem d_T_drawn_99 : decode m_T_drawn.2.1 99 = .ok (.bipush (6), 2) := by decide +kernel
theorem d_T_drawn_101 : decode m_T_drawn.2.1 101 = .ok (.irem, 1) := by decide +kernel
theorem d_T_drawn_102 : decode m_T_drawn.2.1 102 = .ok (.aload_n 0, 1) := by decide +kernel
theorem d_T_drawn_103 : decode m_T_drawn.2.1 103 = .ok (.iload 8, 2) := by decide +kernel
theorem d_T_drawn_105 : decode m_T_drawn.2.1 105 = .ok (.iload 5, 2) := by decide +kernel
theorem d_T_drawn_107 : decode m_T_drawn.2.1 107 = .ok (.irem, 1) := by decide +kernel
theorem d_T_drawn_108 : decode m_T_drawn.2.1 108 = .ok (.invokevirtual 217, 3) := by decide +kernel
theorem d_T_drawn_111 : decode m_T_drawn.2.1 111 = .ok (.invokevirtual 253, 3) := by decide +kernel
theorem d_T_drawn_114 : decode m_T_drawn.2.1 114 = .ok (.aload_n 0, 1) := by decide +kernel
theorem d_T_drawn_115 : decode m_T_drawn.2.1 115 = .ok (.getfield 10, 3) := by decide +kernel
theorem d_T_drawn_118 : decode m_T_drawn.2.1 118 = .ok (.getfield 126, 3) := by decide +kernel
theorem d_T_drawn_121 : decode m_T_drawn.2.1 121 = .ok (.ifCond .ne (7), 3) := by decide +kernel
theorem d_T_drawn_124 : decode m_T_drawn.2.1 124 = .ok (.iconst 0, 1) := by decide +kernel
theorem d_T_drawn_125 : decode m_T_drawn.2.1 125 = .ok (.goto (23), 3) := by decide +kernel
theorem d_T_drawn_148 : decode m_T_drawn.2.1 148 = .ok (.istore 9, 2) := by decide +kernel
theorem d_T_drawn_150 : decode m_T_drawn.2.1 150 = .ok (.iload_n 3, 1) := by decide +kernel
theorem d_T_drawn_151 : decode m_T_drawn.2.1 151 = .ok (.bipush (6), 2) := by decide +kernel
theorem d_T_drawn_153 : decode m_T_drawn.2.1 153 = .ok (.if_icmp .ne (11), 3) := by decide +kernel
theorem d_T_drawn_156 : decode m_T_drawn.2.1 156 = .ok (.iload 9, 2) := by decide +kernel
theorem d_T_drawn_158 : decode m_T_drawn.2.1 158 = .ok (.ifCond .ne (18), 3) := by decide +kernel
theorem d_T_drawn_161 : decode m_T_drawn.2.1 161 = .ok (.goto (12), 3) := by decide +kernel
theorem d_T_drawn_173 : decode m_T_drawn.2.1 173 = .ok (.iinc 7 (1), 3) := by decide +kernel
theorem d_T_drawn_176 : decode m_T_drawn.2.1 176 = .ok (.iinc 8 (1), 3) := by decide +kernel
theorem d_T_drawn_179 : decode m_T_drawn.2.1 179 = .ok (.goto (-114), 3) := by decide +kernel
theorem d_T_drawn_164 : decode m_T_drawn.2.1 164 = .ok (.iload 9, 2) := by decide +kernel
theorem d_T_drawn_166 : decode m_T_drawn.2.1 166 = .ok (.iload_n 3, 1) := by decide +kernel
theorem d_T_drawn_167 : decode m_T_drawn.2.1 167 = .ok (.invokestatic 160, 3) := by decide +kernel
theorem d_T_drawn_170 : decode m_T_drawn.2.1 170 = .ok (.ifCond .eq (6), 3) := by decide +kernel
theorem d_T_drawn_128 : decode m_T_drawn.2.1 128 = .ok (.aload_n 0, 1) := by decide +kernel
theorem d_T_drawn_129 : decode m_T_drawn.2.1 129 = .ok (.getfield 19, 3) := by decide +kernel
theorem d_T_drawn_132 : decode m_T_drawn.2.1 132 = .ok (.iload 6, 2) := by decide +kernel
theorem d_T_drawn_134 : decode m_T_drawn.2.1 134 = .ok (.bipush (16), 2) := by decide +kernel
theorem d_T_drawn_136 : decode m_T_drawn.2.1 136 = .ok (.iushr, 1) := by decide +kernel
theorem d_T_drawn_137 : decode m_T_drawn.2.1 137 = .ok (.aload_n 0, 1) := by decide +kernel
theorem d_T_drawn_138 : decode m_T_drawn.2.1 138 = .ok (.getfield 10, 3) := by decide +kernel
theorem d_T_drawn_141 : decode m_T_drawn.2.1 141 = .ok (.getfield 126, 3) := by decide +kernel
theorem d_T_drawn_144 : decode m_T_drawn.2.1 144 = .ok (.irem, 1) := by decide +kernel
theorem d_T_drawn_145 : decode m_T_drawn.2.1 145 = .ok (.invokevirtual 136, 3) := by decide +kernel
theorem d_Le_enter_0 : decode m_Le_enter.2.1 0 = .ok (.iload_n 2, 1) := by decide +kernel
theorem d_Le_enter_1 : decode m_Le_enter.2.1 1 = .ok (.aload_n 0, 1) := by decide +kernel
theorem d_Le_enter_2 : decode m_Le_enter.2.1 2 = .ok (.getfield 19, 3) := by decide +kernel
theorem d_Le_enter_5 : decode m_Le_enter.2.1 5 = .ok (.iconst (-1), 1) := by decide +kernel
theorem d_Le_enter_6 : decode m_Le_enter.2.1 6 = .ok (.ixor, 1) := by decide +kernel
theorem d_Le_enter_7 : decode m_Le_enter.2.1 7 = .ok (.iand, 1) := by decide +kernel
theorem d_Le_enter_8 : decode m_Le_enter.2.1 8 = .ok (.istore_n 3, 1) := by decide +kernel
theorem d_Le_enter_9 : decode m_Le_enter.2.1 9 = .ok (.aload_n 0, 1) := by decide +kernel
theorem d_Le_enter_10 : decode m_Le_enter.2.1 10 = .ok (.dup, 1) := by decide +kernel
theorem d_Le_enter_11 : decode m_Le_enter.2.1 11 = .ok (.getfield 23, 3) := by decide +kernel
theorem d_Le_enter_14 : decode m_Le_enter.2.1 14 = .ok (.iconst 1, 1) := by decide +kernel
theorem d_Le_enter_15 : decode m_Le_enter.2.1 15 = .ok (.iload_n 1, 1) := by decide +kernel
theorem d_Le_enter_16 : decode m_Le_enter.2.1 16 = .ok (.ishl, 1) := by decide +kernel
theorem d_Le_enter_17 : decode m_Le_enter.2.1 17 = .ok (.ior, 1) := by decide +kernel
theorem d_Le_enter_18 : decode m_Le_enter.2.1 18 = .ok (.putfield 23, 3) := by decide +kernel
theorem d_Le_enter_21 : decode m_Le_enter.2.1 21 = .ok (.aload_n 0, 1) := by decide +kernel
theorem d_Le_enter_22 : decode m_Le_enter.2.1 22 = .ok (.dup, 1) := by decide +kernel
theorem d_Le_enter_23 : decode m_Le_enter.2.1 23 = .ok (.getfield 19, 3) := by decide +kernel
theorem d_Le_enter_26 : decode m_Le_enter.2.1 26 = .ok (.iload_n 3, 1) := by decide +kernel
theorem d_Le_enter_27 : decode m_Le_enter.2.1 27 = .ok (.ior, 1) := by decide +kernel
theorem d_Le_enter_28 : decode m_Le_enter.2.1 28 = .ok (.putfield 19, 3) := by decide +kernel
theorem d_Le_enter_31 : decode m_Le_enter.2.1 31 = .ok (.aload_n 0, 1) := by decide +kernel
theorem d_Le_enter_32 : decode m_Le_enter.2.1 32 = .ok (.getfield 9, 3) := by decide +kernel
theorem d_Le_enter_35 : decode m_Le_enter.2.1 35 = .ok (.iconst 0, 1) := by decide +kernel
theorem d_Le_enter_36 : decode m_Le_enter.2.1 36 = .ok (.dup2, 1) := by decide +kernel
theorem d_Le_enter_37 : decode m_Le_enter.2.1 37 = .ok (.iaload, 1) := by decide +kernel
theorem d_Le_enter_38 : decode m_Le_enter.2.1 38 = .ok (.iconst 1, 1) := by decide +kernel
theorem d_Le_enter_39 : decode m_Le_enter.2.1 39 = .ok (.iadd, 1) := by decide +kernel
theorem d_Le_enter_40 : decode m_Le_enter.2.1 40 = .ok (.iastore, 1) := by decide +kernel
theorem d_Le_enter_41 : decode m_Le_enter.2.1 41 = .ok (.aload_n 0, 1) := by decide +kernel
theorem d_Le_enter_42 : decode m_Le_enter.2.1 42 = .ok (.getfield 9, 3) := by decide +kernel
theorem d_Le_enter_45 : decode m_Le_enter.2.1 45 = .ok (.iconst 1, 1) := by decide +kernel
theorem d_Le_enter_46 : decode m_Le_enter.2.1 46 = .ok (.dup2, 1) := by decide +kernel
theorem d_Le_enter_47 : decode m_Le_enter.2.1 47 = .ok (.iaload, 1) := by decide +kernel
theorem d_Le_enter_48 : decode m_Le_enter.2.1 48 = .ok (.iload_n 3, 1) := by decide +kernel
theorem d_Le_enter_49 : decode m_Le_enter.2.1 49 = .ok (.invokestatic 26, 3) := by decide +kernel
theorem d_Le_enter_52 : decode m_Le_enter.2.1 52 = .ok (.iadd, 1) := by decide +kernel
theorem d_Le_enter_53 : decode m_Le_enter.2.1 53 = .ok (.iastore, 1) := by decide +kernel
theorem d_Le_enter_54 : decode m_Le_enter.2.1 54 = .ok (.iload_n 3, 1) := by decide +kernel
theorem d_Le_enter_55 : decode m_Le_enter.2.1 55 = .ok (.ireturn, 1) := by decide +kernel
theorem d_T_claim_0 : decode m_T_claim.2.1 0 = .ok (.iload_n 1, 1) := by decide +kernel
theorem d_T_claim_1 : decode m_T_claim.2.1 1 = .ok (.aload_n 0, 1) := by decide +kernel
theorem d_T_claim_2 : decode m_T_claim.2.1 2 = .ok (.getfield 10, 3) := by decide +kernel
theorem d_T_claim_5 : decode m_T_claim.2.1 5 = .ok (.getfield 126, 3) := by decide +kernel
theorem d_T_claim_8 : decode m_T_claim.2.1 8 = .ok (.invokestatic 72, 3) := by decide +kernel
theorem d_T_claim_11 : decode m_T_claim.2.1 11 = .ok (.ifCond .ne (5), 3) := by decide +kernel
theorem d_T_claim_14 : decode m_T_claim.2.1 14 = .ok (.iconst (-1), 1) := by decide +kernel
theorem d_T_claim_15 : decode m_T_claim.2.1 15 = .ok (.ireturn, 1) := by decide +kernel
theorem d_T_claim_16 : decode m_T_claim.2.1 16 = .ok (.aload_n 0, 1) := by decide +kernel
theorem d_T_claim_17 : decode m_T_claim.2.1 17 = .ok (.getfield 47, 3) := by decide +kernel
theorem d_T_claim_20 : decode m_T_claim.2.1 20 = .ok (.getfield 256, 3) := by decide +kernel
theorem d_T_claim_23 : decode m_T_claim.2.1 23 = .ok (.iload_n 1, 1) := by decide +kernel
theorem d_T_claim_24 : decode m_T_claim.2.1 24 = .ok (.invokestatic 160, 3) := by decide +kernel
theorem d_T_claim_27 : decode m_T_claim.2.1 27 = .ok (.ifCond .eq (6), 3) := by decide +kernel
theorem d_T_claim_33 : decode m_T_claim.2.1 33 = .ok (.aload_n 0, 1) := by decide +kernel
theorem d_T_claim_34 : decode m_T_claim.2.1 34 = .ok (.getfield 19, 3) := by decide +kernel
theorem d_T_claim_37 : decode m_T_claim.2.1 37 = .ok (.aload_n 0, 1) := by decide +kernel
theorem d_T_claim_38 : decode m_T_claim.2.1 38 = .ok (.getfield 10, 3) := by decide +kernel
theorem d_T_claim_41 : decode m_T_claim.2.1 41 = .ok (.invokevirtual 132, 3) := by decide +kernel
theorem d_T_claim_44 : decode m_T_claim.2.1 44 = .ok (.aload_n 0, 1) := by decide +kernel
theorem d_T_claim_45 : decode m_T_claim.2.1 45 = .ok (.getfield 47, 3) := by decide +kernel
theorem d_T_claim_48 : decode m_T_claim.2.1 48 = .ok (.iload_n 1, 1) := by decide +kernel
theorem d_T_claim_49 : decode m_T_claim.2.1 49 = .ok (.aload_n 0, 1) := by decide +kernel
theorem d_T_claim_50 : decode m_T_claim.2.1 50 = .ok (.getfield 19, 3) := by decide +kernel
theorem d_T_claim_53 : decode m_T_claim.2.1 53 = .ok (.iload_n 1, 1) := by decide +kernel
theorem d_T_claim_54 : decode m_T_claim.2.1 54 = .ok (.aload_n 0, 1) := by decide +kernel
theorem d_T_claim_55 : decode m_T_claim.2.1 55 = .ok (.getfield 47, 3) := by decide +kernel
theorem d_T_claim_58 : decode m_T_claim.2.1 58 = .ok (.getfield 256, 3) := by decide +kernel
theorem d_T_claim_61 : decode m_T_claim.2.1 61 = .ok (.invokevirtual 152, 3) := by decide +kernel
theorem d_T_claim_64 : decode m_T_claim.2.1 64 = .ok (.invokevirtual 259, 3) := by decide +kernel
theorem d_T_claim_67 : decode m_T_claim.2.1 67 = .ok (.ireturn, 1) := by decide +kernel
theorem d_T_claim_30 : decode m_T_claim.2.1 30 = .ok (.bipush (-5), 2) := by decide +kernel
theorem d_T_claim_32 : decode m_T_claim.2.1 32 = .ok (.ireturn, 1) := by decide +kernel
theorem d_Le_endDay_0 : decode m_Le_endDay.2.1 0 = .ok (.aload_n 0, 1) := by decide +kernel
theorem d_Le_endDay_1 : decode m_Le_endDay.2.1 1 = .ok (.iconst 0, 1) := by decide +kernel
theorem d_Le_endDay_2 : decode m_Le_endDay.2.1 2 = .ok (.putfield 23, 3) := by decide +kernel
theorem d_Le_endDay_5 : decode m_Le_endDay.2.1 5 = .ok (.aload_n 0, 1) := by decide +kernel
theorem d_Le_endDay_6 : decode m_Le_endDay.2.1 6 = .ok (.iconst 0, 1) := by decide +kernel
theorem d_Le_endDay_7 : decode m_Le_endDay.2.1 7 = .ok (.putfield 19, 3) := by decide +kernel
theorem d_Le_endDay_10 : decode m_Le_endDay.2.1 10 = .ok (.aload_n 0, 1) := by decide +kernel
theorem d_Le_endDay_11 : decode m_Le_endDay.2.1 11 = .ok (.getfield 9, 3) := by decide +kernel
theorem d_Le_endDay_14 : decode m_Le_endDay.2.1 14 = .ok (.iconst 4, 1) := by decide +kernel
theorem d_Le_endDay_15 : decode m_Le_endDay.2.1 15 = .ok (.dup2, 1) := by decide +kernel
theorem d_Le_endDay_16 : decode m_Le_endDay.2.1 16 = .ok (.iaload, 1) := by decide +kernel
theorem d_Le_endDay_17 : decode m_Le_endDay.2.1 17 = .ok (.iconst 1, 1) := by decide +kernel
theorem d_Le_endDay_18 : decode m_Le_endDay.2.1 18 = .ok (.iadd, 1) := by decide +kernel
theorem d_Le_endDay_19 : decode m_Le_endDay.2.1 19 = .ok (.iastore, 1) := by decide +kernel
theorem d_Le_endDay_20 : decode m_Le_endDay.2.1 20 = .ok (.return_, 1) := by decide +kernel
theorem d_T_ends_0 : decode m_T_ends.2.1 0 = .ok (.aload_n 0, 1) := by decide +kernel
theorem d_T_ends_1 : decode m_T_ends.2.1 1 = .ok (.getfield 10, 3) := by decide +kernel
theorem d_T_ends_4 : decode m_T_ends.2.1 4 = .ok (.aload_n 0, 1) := by decide +kernel
theorem d_T_ends_5 : decode m_T_ends.2.1 5 = .ok (.iconst 1, 1) := by decide +kernel
theorem d_T_ends_6 : decode m_T_ends.2.1 6 = .ok (.invokevirtual 217, 3) := by decide +kernel
theorem d_T_ends_9 : decode m_T_ends.2.1 9 = .ok (.putfield 262, 3) := by decide +kernel
theorem d_T_ends_12 : decode m_T_ends.2.1 12 = .ok (.aload_n 0, 1) := by decide +kernel
theorem d_T_ends_13 : decode m_T_ends.2.1 13 = .ok (.getfield 47, 3) := by decide +kernel
theorem d_T_ends_16 : decode m_T_ends.2.1 16 = .ok (.invokevirtual 265, 3) := by decide +kernel
theorem d_T_ends_19 : decode m_T_ends.2.1 19 = .ok (.aload_n 0, 1) := by decide +kernel
theorem d_T_ends_20 : decode m_T_ends.2.1 20 = .ok (.getfield 10, 3) := by decide +kernel
theorem d_T_ends_23 : decode m_T_ends.2.1 23 = .ok (.getfield 262, 3) := by decide +kernel
theorem d_T_ends_26 : decode m_T_ends.2.1 26 = .ok (.ireturn, 1) := by decide +kernel
theorem d_Isl_join_0 : decode m_Isl_join.2.1 0 = .ok (.iconst 0, 1) := by decide +kernel
theorem d_Isl_join_1 : decode m_Isl_join.2.1 1 = .ok (.istore_n 3, 1) := by decide +kernel
theorem d_Isl_join_2 : decode m_Isl_join.2.1 2 = .ok (.iconst 0, 1) := by decide +kernel
theorem d_Isl_join_3 : decode m_Isl_join.2.1 3 = .ok (.istore 4, 2) := by decide +kernel
theorem d_Isl_join_5 : decode m_Isl_join.2.1 5 = .ok (.iload 4, 2) := by decide +kernel
theorem d_Isl_join_7 : decode m_Isl_join.2.1 7 = .ok (.aload_n 0, 1) := by decide +kernel
theorem d_Isl_join_8 : decode m_Isl_join.2.1 8 = .ok (.getfield 34, 3) := by decide +kernel
theorem d_Isl_join_11 : decode m_Isl_join.2.1 11 = .ok (.if_icmp .ge (47), 3) := by decide +kernel
theorem d_Isl_join_58 : decode m_Isl_join.2.1 58 = .ok (.iload_n 3, 1) := by decide +kernel
theorem d_Isl_join_59 : decode m_Isl_join.2.1 59 = .ok (.ireturn, 1) := by decide +kernel
theorem d_Isl_join_14 : decode m_Isl_join.2.1 14 = .ok (.aload_n 0, 1) := by decide +kernel
theorem d_Isl_join_15 : decode m_Isl_join.2.1 15 = .ok (.getfield 9, 3) := by decide +kernel
theorem d_Isl_join_18 : decode m_Isl_join.2.1 18 = .ok (.iload 4, 2) := by decide +kernel
theorem d_Isl_join_20 : decode m_Isl_join.2.1 20 = .ok (.iaload, 1) := by decide +kernel
theorem d_Isl_join_21 : decode m_Isl_join.2.1 21 = .ok (.iload_n 2, 1) := by decide +kernel
theorem d_Isl_join_22 : decode m_Isl_join.2.1 22 = .ok (.if_icmp .ne (11), 3) := by decide +kernel
theorem d_Isl_join_25 : decode m_Isl_join.2.1 25 = .ok (.aload_n 0, 1) := by decide +kernel
theorem d_Isl_join_26 : decode m_Isl_join.2.1 26 = .ok (.getfield 9, 3) := by decide +kernel
theorem d_Isl_join_29 : decode m_Isl_join.2.1 29 = .ok (.iload 4, 2) := by decide +kernel
theorem d_Isl_join_31 : decode m_Isl_join.2.1 31 = .ok (.iload_n 1, 1) := by decide +kernel
theorem d_Isl_join_32 : decode m_Isl_join.2.1 32 = .ok (.iastore, 1) := by decide +kernel
theorem d_Isl_join_33 : decode m_Isl_join.2.1 33 = .ok (.iload_n 3, 1) := by decide +kernel
theorem d_Isl_join_34 : decode m_Isl_join.2.1 34 = .ok (.aload_n 0, 1) := by decide +kernel
theorem d_Isl_join_35 : decode m_Isl_join.2.1 35 = .ok (.getfield 9, 3) := by decide +kernel
theorem d_Isl_join_38 : decode m_Isl_join.2.1 38 = .ok (.iload 4, 2) := by decide +kernel
theorem d_Isl_join_40 : decode m_Isl_join.2.1 40 = .ok (.iaload, 1) := by decide +kernel
theorem d_Isl_join_41 : decode m_Isl_join.2.1 41 = .ok (.iload_n 1, 1) := by decide +kernel
theorem d_Isl_join_42 : decode m_Isl_join.2.1 42 = .ok (.if_icmp .ne (7), 3) := by decide +kernel
theorem d_Isl_join_45 : decode m_Isl_join.2.1 45 = .ok (.iconst 1, 1) := by decide +kernel
theorem d_Isl_join_46 : decode m_Isl_join.2.1 46 = .ok (.goto (4), 3) := by decide +kernel
theorem d_Isl_join_50 : decode m_Isl_join.2.1 50 = .ok (.iadd, 1) := by decide +kernel
theorem d_Isl_join_51 : decode m_Isl_join.2.1 51 = .ok (.istore_n 3, 1) := by decide +kernel
theorem d_Isl_join_52 : decode m_Isl_join.2.1 52 = .ok (.iinc 4 (1), 3) := by decide +kernel
theorem d_Isl_join_55 : decode m_Isl_join.2.1 55 = .ok (.goto (-50), 3) := by decide +kernel
theorem d_Isl_join_49 : decode m_Isl_join.2.1 49 = .ok (.iconst 0, 1) := by decide +kernel
theorem d_Le_add_0 : decode m_Le_add.2.1 0 = .ok (.iload_n 1, 1) := by decide +kernel
theorem d_Le_add_1 : decode m_Le_add.2.1 1 = .ok (.iconst 5, 1) := by decide +kernel
theorem d_Le_add_2 : decode m_Le_add.2.1 2 = .ok (.invokestatic 13, 3) := by decide +kernel
theorem d_Le_add_5 : decode m_Le_add.2.1 5 = .ok (.ifCond .eq (13), 3) := by decide +kernel
theorem d_Le_add_18 : decode m_Le_add.2.1 18 = .ok (.return_, 1) := by decide +kernel
theorem d_Le_add_8 : decode m_Le_add.2.1 8 = .ok (.aload_n 0, 1) := by decide +kernel
theorem d_Le_add_9 : decode m_Le_add.2.1 9 = .ok (.getfield 9, 3) := by decide +kernel
theorem d_Le_add_12 : decode m_Le_add.2.1 12 = .ok (.iload_n 1, 1) := by decide +kernel
theorem d_Le_add_13 : decode m_Le_add.2.1 13 = .ok (.dup2, 1) := by decide +kernel
theorem d_Le_add_14 : decode m_Le_add.2.1 14 = .ok (.iaload, 1) := by decide +kernel
theorem d_Le_add_15 : decode m_Le_add.2.1 15 = .ok (.iload_n 2, 1) := by decide +kernel
theorem d_Le_add_16 : decode m_Le_add.2.1 16 = .ok (.iadd, 1) := by decide +kernel
theorem d_Le_add_17 : decode m_Le_add.2.1 17 = .ok (.iastore, 1) := by decide +kernel
theorem d_T_marry_0 : decode m_T_marry.2.1 0 = .ok (.iload_n 1, 1) := by decide +kernel
theorem d_T_marry_1 : decode m_T_marry.2.1 1 = .ok (.bipush (8), 2) := by decide +kernel
theorem d_T_marry_3 : decode m_T_marry.2.1 3 = .ok (.invokestatic 174, 3) := by decide +kernel
theorem d_T_marry_6 : decode m_T_marry.2.1 6 = .ok (.ifCond .eq (14), 3) := by decide +kernel
theorem d_T_marry_20 : decode m_T_marry.2.1 20 = .ok (.iconst (-1), 1) := by decide +kernel
theorem d_T_marry_21 : decode m_T_marry.2.1 21 = .ok (.ireturn, 1) := by decide +kernel
theorem d_T_marry_9 : decode m_T_marry.2.1 9 = .ok (.iload_n 1, 1) := by decide +kernel
theorem d_T_marry_10 : decode m_T_marry.2.1 10 = .ok (.bipush (10), 2) := by decide +kernel
theorem d_T_marry_12 : decode m_T_marry.2.1 12 = .ok (.idiv, 1) := by decide +kernel
theorem d_T_marry_13 : decode m_T_marry.2.1 13 = .ok (.iload_n 1, 1) := by decide +kernel
theorem d_T_marry_14 : decode m_T_marry.2.1 14 = .ok (.bipush (10), 2) := by decide +kernel
theorem d_T_marry_16 : decode m_T_marry.2.1 16 = .ok (.irem, 1) := by decide +kernel
theorem d_T_marry_17 : decode m_T_marry.2.1 17 = .ok (.if_icmp .ne (5), 3) := by decide +kernel
theorem d_T_marry_22 : decode m_T_marry.2.1 22 = .ok (.aload_n 0, 1) := by decide +kernel
theorem d_T_marry_23 : decode m_T_marry.2.1 23 = .ok (.getfield 47, 3) := by decide +kernel
theorem d_T_marry_26 : decode m_T_marry.2.1 26 = .ok (.iconst 2, 1) := by decide +kernel
theorem d_T_marry_27 : decode m_T_marry.2.1 27 = .ok (.iconst 1, 1) := by decide +kernel
theorem d_T_marry_28 : decode m_T_marry.2.1 28 = .ok (.invokevirtual 268, 3) := by decide +kernel
theorem d_T_marry_31 : decode m_T_marry.2.1 31 = .ok (.aload_n 0, 1) := by decide +kernel
theorem d_T_marry_32 : decode m_T_marry.2.1 32 = .ok (.getfield 10, 3) := by decide +kernel
theorem d_T_marry_35 : decode m_T_marry.2.1 35 = .ok (.iload_n 1, 1) := by decide +kernel
theorem d_T_marry_36 : decode m_T_marry.2.1 36 = .ok (.bipush (10), 2) := by decide +kernel
theorem d_T_marry_38 : decode m_T_marry.2.1 38 = .ok (.idiv, 1) := by decide +kernel
theorem d_T_marry_39 : decode m_T_marry.2.1 39 = .ok (.iload_n 1, 1) := by decide +kernel
theorem d_T_marry_40 : decode m_T_marry.2.1 40 = .ok (.bipush (10), 2) := by decide +kernel
theorem d_T_marry_42 : decode m_T_marry.2.1 42 = .ok (.irem, 1) := by decide +kernel
theorem d_T_marry_43 : decode m_T_marry.2.1 43 = .ok (.invokestatic 271, 3) := by decide +kernel
theorem d_T_marry_46 : decode m_T_marry.2.1 46 = .ok (.iload_n 1, 1) := by decide +kernel
theorem d_T_marry_47 : decode m_T_marry.2.1 47 = .ok (.bipush (10), 2) := by decide +kernel
theorem d_T_marry_49 : decode m_T_marry.2.1 49 = .ok (.idiv, 1) := by decide +kernel
theorem d_T_marry_50 : decode m_T_marry.2.1 50 = .ok (.iload_n 1, 1) := by decide +kernel
theorem d_T_marry_51 : decode m_T_marry.2.1 51 = .ok (.bipush (10), 2) := by decide +kernel
theorem d_T_marry_53 : decode m_T_marry.2.1 53 = .ok (.irem, 1) := by decide +kernel
theorem d_T_marry_54 : decode m_T_marry.2.1 54 = .ok (.invokestatic 224, 3) := by decide +kernel
theorem d_T_marry_57 : decode m_T_marry.2.1 57 = .ok (.invokevirtual 274, 3) := by decide +kernel
theorem d_T_marry_60 : decode m_T_marry.2.1 60 = .ok (.ireturn, 1) := by decide +kernel
theorem d_T_paid_0 : decode m_T_paid.2.1 0 = .ok (.iload_n 1, 1) := by decide +kernel
theorem d_T_paid_1 : decode m_T_paid.2.1 1 = .ok (.aload_n 0, 1) := by decide +kernel
theorem d_T_paid_2 : decode m_T_paid.2.1 2 = .ok (.getfield 10, 3) := by decide +kernel
theorem d_T_paid_5 : decode m_T_paid.2.1 5 = .ok (.getfield 126, 3) := by decide +kernel
theorem d_T_paid_8 : decode m_T_paid.2.1 8 = .ok (.invokestatic 72, 3) := by decide +kernel
theorem d_T_paid_11 : decode m_T_paid.2.1 11 = .ok (.ifCond .eq (12), 3) := by decide +kernel
theorem d_T_paid_23 : decode m_T_paid.2.1 23 = .ok (.iconst (-1), 1) := by decide +kernel
theorem d_T_paid_24 : decode m_T_paid.2.1 24 = .ok (.ireturn, 1) := by decide +kernel
theorem d_T_paid_14 : decode m_T_paid.2.1 14 = .ok (.iload_n 2, 1) := by decide +kernel
theorem d_T_paid_15 : decode m_T_paid.2.1 15 = .ok (.bipush (7), 2) := by decide +kernel
theorem d_T_paid_17 : decode m_T_paid.2.1 17 = .ok (.invokestatic 72, 3) := by decide +kernel
theorem d_T_paid_20 : decode m_T_paid.2.1 20 = .ok (.ifCond .ne (5), 3) := by decide +kernel
theorem d_T_paid_25 : decode m_T_paid.2.1 25 = .ok (.iload_n 2, 1) := by decide +kernel
theorem d_T_paid_26 : decode m_T_paid.2.1 26 = .ok (.bipush (6), 2) := by decide +kernel
theorem d_T_paid_28 : decode m_T_paid.2.1 28 = .ok (.if_icmp .ne (15), 3) := by decide +kernel
theorem d_T_paid_31 : decode m_T_paid.2.1 31 = .ok (.aload_n 0, 1) := by decide +kernel
theorem d_T_paid_32 : decode m_T_paid.2.1 32 = .ok (.getfield 10, 3) := by decide +kernel
theorem d_T_paid_35 : decode m_T_paid.2.1 35 = .ok (.getfield 277, 3) := by decide +kernel
theorem d_T_paid_38 : decode m_T_paid.2.1 38 = .ok (.iload_n 1, 1) := by decide +kernel
theorem d_T_paid_39 : decode m_T_paid.2.1 39 = .ok (.iconst (-1), 1) := by decide +kernel
theorem d_T_paid_40 : decode m_T_paid.2.1 40 = .ok (.iastore, 1) := by decide +kernel
theorem d_T_paid_41 : decode m_T_paid.2.1 41 = .ok (.iconst 0, 1) := by decide +kernel
theorem d_T_paid_42 : decode m_T_paid.2.1 42 = .ok (.ireturn, 1) := by decide +kernel
theorem d_T_paid_43 : decode m_T_paid.2.1 43 = .ok (.aload_n 0, 1) := by decide +kernel
theorem d_T_paid_44 : decode m_T_paid.2.1 44 = .ok (.getfield 10, 3) := by decide +kernel
theorem d_T_paid_47 : decode m_T_paid.2.1 47 = .ok (.getfield 277, 3) := by decide +kernel
theorem d_T_paid_50 : decode m_T_paid.2.1 50 = .ok (.iload_n 1, 1) := by decide +kernel
theorem d_T_paid_51 : decode m_T_paid.2.1 51 = .ok (.iload_n 2, 1) := by decide +kernel
theorem d_T_paid_52 : decode m_T_paid.2.1 52 = .ok (.iastore, 1) := by decide +kernel
theorem d_T_paid_53 : decode m_T_paid.2.1 53 = .ok (.aload_n 0, 1) := by decide +kernel
theorem d_T_paid_54 : decode m_T_paid.2.1 54 = .ok (.getfield 47, 3) := by decide +kernel
theorem d_T_paid_57 : decode m_T_paid.2.1 57 = .ok (.iconst 3, 1) := by decide +kernel
theorem d_T_paid_58 : decode m_T_paid.2.1 58 = .ok (.aload_n 0, 1) := by decide +kernel
theorem d_T_paid_59 : decode m_T_paid.2.1 59 = .ok (.getfield 10, 3) := by decide +kernel
theorem d_T_paid_62 : decode m_T_paid.2.1 62 = .ok (.getfield 281, 3) := by decide +kernel
theorem d_T_paid_65 : decode m_T_paid.2.1 65 = .ok (.iload_n 1, 1) := by decide +kernel
theorem d_T_paid_66 : decode m_T_paid.2.1 66 = .ok (.iaload, 1) := by decide +kernel
theorem d_T_paid_67 : decode m_T_paid.2.1 67 = .ok (.invokevirtual 268, 3) := by decide +kernel
theorem d_T_paid_70 : decode m_T_paid.2.1 70 = .ok (.aload_n 0, 1) := by decide +kernel
theorem d_T_paid_71 : decode m_T_paid.2.1 71 = .ok (.getfield 10, 3) := by decide +kernel
theorem d_T_paid_74 : decode m_T_paid.2.1 74 = .ok (.getfield 281, 3) := by decide +kernel
theorem d_T_paid_77 : decode m_T_paid.2.1 77 = .ok (.iload_n 1, 1) := by decide +kernel
theorem d_T_paid_78 : decode m_T_paid.2.1 78 = .ok (.iaload, 1) := by decide +kernel
theorem d_T_paid_79 : decode m_T_paid.2.1 79 = .ok (.ireturn, 1) := by decide +kernel
theorem d_T_led_0 : decode m_T_led.2.1 0 = .ok (.iload_n 1, 1) := by decide +kernel
theorem d_T_led_1 : decode m_T_led.2.1 1 = .ok (.iconst 5, 1) := by decide +kernel
theorem d_T_led_2 : decode m_T_led.2.1 2 = .ok (.invokestatic 72, 3) := by decide +kernel
theorem d_T_led_5 : decode m_T_led.2.1 5 = .ok (.ifCond .eq (15), 3) := by decide +kernel
theorem d_T_led_20 : decode m_T_led.2.1 20 = .ok (.iconst (-1), 1) := by decide +kernel
theorem d_T_led_21 : decode m_T_led.2.1 21 = .ok (.ireturn, 1) := by decide +kernel
theorem d_T_led_8 : decode m_T_led.2.1 8 = .ok (.aload_n 0, 1) := by decide +kernel
theorem d_T_led_9 : decode m_T_led.2.1 9 = .ok (.getfield 47, 3) := by decide +kernel
theorem d_T_led_12 : decode m_T_led.2.1 12 = .ok (.getfield 284, 3) := by decide +kernel
theorem d_T_led_15 : decode m_T_led.2.1 15 = .ok (.iload_n 1, 1) := by decide +kernel
theorem d_T_led_16 : decode m_T_led.2.1 16 = .ok (.iaload, 1) := by decide +kernel
theorem d_T_led_17 : decode m_T_led.2.1 17 = .ok (.goto (4), 3) := by decide +kernel
theorem d_Le_copyFrom_0 : decode m_Le_copyFrom.2.1 0 = .ok (.aload_n 1, 1) := by decide +kernel
theorem d_Le_copyFrom_1 : decode m_Le_copyFrom.2.1 1 = .ok (.getfield 9, 3) := by decide +kernel
theorem d_Le_copyFrom_4 : decode m_Le_copyFrom.2.1 4 = .ok (.iconst 0, 1) := by decide +kernel
theorem d_Le_copyFrom_5 : decode m_Le_copyFrom.2.1 5 = .ok (.aload_n 0, 1) := by decide +kernel
theorem d_Le_copyFrom_6 : decode m_Le_copyFrom.2.1 6 = .ok (.getfield 9, 3) := by decide +kernel
theorem d_Le_copyFrom_9 : decode m_Le_copyFrom.2.1 9 = .ok (.iconst 0, 1) := by decide +kernel
theorem d_Le_copyFrom_10 : decode m_Le_copyFrom.2.1 10 = .ok (.iconst 5, 1) := by decide +kernel
theorem d_Le_copyFrom_11 : decode m_Le_copyFrom.2.1 11 = .ok (.invokestatic 32, 3) := by decide +kernel
theorem d_Le_copyFrom_14 : decode m_Le_copyFrom.2.1 14 = .ok (.aload_n 0, 1) := by decide +kernel
theorem d_Le_copyFrom_15 : decode m_Le_copyFrom.2.1 15 = .ok (.aload_n 1, 1) := by decide +kernel
theorem d_Le_copyFrom_16 : decode m_Le_copyFrom.2.1 16 = .ok (.getfield 23, 3) := by decide +kernel
theorem d_Le_copyFrom_19 : decode m_Le_copyFrom.2.1 19 = .ok (.putfield 23, 3) := by decide +kernel
theorem d_Le_copyFrom_22 : decode m_Le_copyFrom.2.1 22 = .ok (.aload_n 0, 1) := by decide +kernel
theorem d_Le_copyFrom_23 : decode m_Le_copyFrom.2.1 23 = .ok (.aload_n 1, 1) := by decide +kernel
theorem d_Le_copyFrom_24 : decode m_Le_copyFrom.2.1 24 = .ok (.getfield 19, 3) := by decide +kernel
theorem d_Le_copyFrom_27 : decode m_Le_copyFrom.2.1 27 = .ok (.putfield 19, 3) := by decide +kernel
theorem d_Le_copyFrom_30 : decode m_Le_copyFrom.2.1 30 = .ok (.return_, 1) := by decide +kernel
theorem d_Pi_take_0 : decode m_Pi_take.2.1 0 = .ok (.aload_n 1, 1) := by decide +kernel
theorem d_Pi_take_1 : decode m_Pi_take.2.1 1 = .ok (.getfield 25, 3) := by decide +kernel
theorem d_Pi_take_4 : decode m_Pi_take.2.1 4 = .ok (.iconst 0, 1) := by decide +kernel
theorem d_Pi_take_5 : decode m_Pi_take.2.1 5 = .ok (.aload_n 0, 1) := by decide +kernel
theorem d_Pi_take_6 : decode m_Pi_take.2.1 6 = .ok (.getfield 9, 3) := by decide +kernel
theorem d_Pi_take_9 : decode m_Pi_take.2.1 9 = .ok (.iconst 0, 1) := by decide +kernel
theorem d_Pi_take_10 : decode m_Pi_take.2.1 10 = .ok (.bipush (10), 2) := by decide +kernel
theorem d_Pi_take_12 : decode m_Pi_take.2.1 12 = .ok (.invokestatic 28, 3) := by decide +kernel
theorem d_Pi_take_15 : decode m_Pi_take.2.1 15 = .ok (.aload_n 1, 1) := by decide +kernel
theorem d_Pi_take_16 : decode m_Pi_take.2.1 16 = .ok (.getfield 34, 3) := by decide +kernel
theorem d_Pi_take_19 : decode m_Pi_take.2.1 19 = .ok (.iconst 0, 1) := by decide +kernel
theorem d_Pi_take_20 : decode m_Pi_take.2.1 20 = .ok (.aload_n 0, 1) := by decide +kernel
theorem d_Pi_take_21 : decode m_Pi_take.2.1 21 = .ok (.getfield 15, 3) := by decide +kernel
theorem d_Pi_take_24 : decode m_Pi_take.2.1 24 = .ok (.iconst 0, 1) := by decide +kernel
theorem d_Pi_take_25 : decode m_Pi_take.2.1 25 = .ok (.bipush (10), 2) := by decide +kernel
theorem d_Pi_take_27 : decode m_Pi_take.2.1 27 = .ok (.invokestatic 28, 3) := by decide +kernel
theorem d_Pi_take_30 : decode m_Pi_take.2.1 30 = .ok (.aload_n 0, 1) := by decide +kernel
theorem d_Pi_take_31 : decode m_Pi_take.2.1 31 = .ok (.getfield 21, 3) := by decide +kernel
theorem d_Pi_take_34 : decode m_Pi_take.2.1 34 = .ok (.aload_n 2, 1) := by decide +kernel
theorem d_Pi_take_35 : decode m_Pi_take.2.1 35 = .ok (.invokevirtual 35, 3) := by decide +kernel
theorem d_Pi_take_38 : decode m_Pi_take.2.1 38 = .ok (.aload_n 0, 1) := by decide +kernel
theorem d_Pi_take_39 : decode m_Pi_take.2.1 39 = .ok (.aload_n 1, 1) := by decide +kernel
theorem d_Pi_take_40 : decode m_Pi_take.2.1 40 = .ok (.getfield 39, 3) := by decide +kernel
theorem d_Pi_take_43 : decode m_Pi_take.2.1 43 = .ok (.putfield 43, 3) := by decide +kernel
theorem d_Pi_take_46 : decode m_Pi_take.2.1 46 = .ok (.aload_n 0, 1) := by decide +kernel
theorem d_Pi_take_47 : decode m_Pi_take.2.1 47 = .ok (.aload_n 1, 1) := by decide +kernel
theorem d_Pi_take_48 : decode m_Pi_take.2.1 48 = .ok (.getfield 44, 3) := by decide +kernel
theorem d_Pi_take_51 : decode m_Pi_take.2.1 51 = .ok (.putfield 47, 3) := by decide +kernel
theorem d_Pi_take_54 : decode m_Pi_take.2.1 54 = .ok (.aload_n 0, 1) := by decide +kernel
theorem d_Pi_take_55 : decode m_Pi_take.2.1 55 = .ok (.iconst 1, 1) := by decide +kernel
theorem d_Pi_take_56 : decode m_Pi_take.2.1 56 = .ok (.putfield 48, 3) := by decide +kernel
theorem d_Pi_take_59 : decode m_Pi_take.2.1 59 = .ok (.return_, 1) := by decide +kernel
theorem d_T_image_0 : decode m_T_image.2.1 0 = .ok (.aload_n 0, 1) := by decide +kernel
theorem d_T_image_1 : decode m_T_image.2.1 1 = .ok (.getfield 54, 3) := by decide +kernel
theorem d_T_image_4 : decode m_T_image.2.1 4 = .ok (.aload_n 0, 1) := by decide +kernel
theorem d_T_image_5 : decode m_T_image.2.1 5 = .ok (.getfield 10, 3) := by decide +kernel
theorem d_T_image_8 : decode m_T_image.2.1 8 = .ok (.aload_n 0, 1) := by decide +kernel
theorem d_T_image_9 : decode m_T_image.2.1 9 = .ok (.getfield 47, 3) := by decide +kernel
theorem d_T_image_12 : decode m_T_image.2.1 12 = .ok (.invokevirtual 287, 3) := by decide +kernel
theorem d_T_image_15 : decode m_T_image.2.1 15 = .ok (.aload_n 0, 1) := by decide +kernel
theorem d_T_image_16 : decode m_T_image.2.1 16 = .ok (.getfield 47, 3) := by decide +kernel
theorem d_T_image_19 : decode m_T_image.2.1 19 = .ok (.getfield 284, 3) := by decide +kernel
theorem d_T_image_22 : decode m_T_image.2.1 22 = .ok (.iconst 4, 1) := by decide +kernel
theorem d_T_image_23 : decode m_T_image.2.1 23 = .ok (.iaload, 1) := by decide +kernel
theorem d_T_image_24 : decode m_T_image.2.1 24 = .ok (.ireturn, 1) := by decide +kernel
theorem d_Pi_layBack_0 : decode m_Pi_layBack.2.1 0 = .ok (.aload_n 0, 1) := by decide +kernel
theorem d_Pi_layBack_1 : decode m_Pi_layBack.2.1 1 = .ok (.getfield 9, 3) := by decide +kernel
theorem d_Pi_layBack_4 : decode m_Pi_layBack.2.1 4 = .ok (.iconst 0, 1) := by decide +kernel
theorem d_Pi_layBack_5 : decode m_Pi_layBack.2.1 5 = .ok (.aload_n 1, 1) := by decide +kernel
theorem d_Pi_layBack_6 : decode m_Pi_layBack.2.1 6 = .ok (.getfield 25, 3) := by decide +kernel
theorem d_Pi_layBack_9 : decode m_Pi_layBack.2.1 9 = .ok (.iconst 0, 1) := by decide +kernel
theorem d_Pi_layBack_10 : decode m_Pi_layBack.2.1 10 = .ok (.aload_n 0, 1) := by decide +kernel
theorem d_Pi_layBack_11 : decode m_Pi_layBack.2.1 11 = .ok (.getfield 43, 3) := by decide +kernel
theorem d_Pi_layBack_14 : decode m_Pi_layBack.2.1 14 = .ok (.invokestatic 28, 3) := by decide +kernel
theorem d_Pi_layBack_17 : decode m_Pi_layBack.2.1 17 = .ok (.aload_n 0, 1) := by decide +kernel
theorem d_Pi_layBack_18 : decode m_Pi_layBack.2.1 18 = .ok (.getfield 15, 3) := by decide +kernel
theorem d_Pi_layBack_21 : decode m_Pi_layBack.2.1 21 = .ok (.iconst 0, 1) := by decide +kernel
theorem d_Pi_layBack_22 : decode m_Pi_layBack.2.1 22 = .ok (.aload_n 1, 1) := by decide +kernel
theorem d_Pi_layBack_23 : decode m_Pi_layBack.2.1 23 = .ok (.getfield 34, 3) := by decide +kernel
theorem d_Pi_layBack_26 : decode m_Pi_layBack.2.1 26 = .ok (.iconst 0, 1) := by decide +kernel
theorem d_Pi_layBack_27 : decode m_Pi_layBack.2.1 27 = .ok (.aload_n 0, 1) := by decide +kernel
theorem d_Pi_layBack_28 : decode m_Pi_layBack.2.1 28 = .ok (.getfield 43, 3) := by decide +kernel
theorem d_Pi_layBack_31 : decode m_Pi_layBack.2.1 31 = .ok (.invokestatic 28, 3) := by decide +kernel
theorem d_Pi_layBack_34 : decode m_Pi_layBack.2.1 34 = .ok (.aload_n 2, 1) := by decide +kernel
theorem d_Pi_layBack_35 : decode m_Pi_layBack.2.1 35 = .ok (.aload_n 0, 1) := by decide +kernel
theorem d_Pi_layBack_36 : decode m_Pi_layBack.2.1 36 = .ok (.getfield 21, 3) := by decide +kernel
theorem d_Pi_layBack_39 : decode m_Pi_layBack.2.1 39 = .ok (.invokevirtual 35, 3) := by decide +kernel
theorem d_Pi_layBack_42 : decode m_Pi_layBack.2.1 42 = .ok (.aload_n 1, 1) := by decide +kernel
theorem d_Pi_layBack_43 : decode m_Pi_layBack.2.1 43 = .ok (.aload_n 0, 1) := by decide +kernel
theorem d_Pi_layBack_44 : decode m_Pi_layBack.2.1 44 = .ok (.getfield 47, 3) := by decide +kernel
theorem d_Pi_layBack_47 : decode m_Pi_layBack.2.1 47 = .ok (.putfield 44, 3) := by decide +kernel
theorem d_Pi_layBack_50 : decode m_Pi_layBack.2.1 50 = .ok (.return_, 1) := by decide +kernel
theorem d_T_back_0 : decode m_T_back.2.1 0 = .ok (.aload_n 0, 1) := by decide +kernel
theorem d_T_back_1 : decode m_T_back.2.1 1 = .ok (.getfield 54, 3) := by decide +kernel
theorem d_T_back_4 : decode m_T_back.2.1 4 = .ok (.getfield 291, 3) := by decide +kernel
theorem d_T_back_7 : decode m_T_back.2.1 7 = .ok (.ifCond .ne (6), 3) := by decide +kernel
theorem d_T_back_10 : decode m_T_back.2.1 10 = .ok (.bipush (-5), 2) := by decide +kernel
theorem d_T_back_12 : decode m_T_back.2.1 12 = .ok (.ireturn, 1) := by decide +kernel
theorem d_T_back_13 : decode m_T_back.2.1 13 = .ok (.aload_n 0, 1) := by decide +kernel
theorem d_T_back_14 : decode m_T_back.2.1 14 = .ok (.getfield 54, 3) := by decide +kernel
theorem d_T_back_17 : decode m_T_back.2.1 17 = .ok (.aload_n 0, 1) := by decide +kernel
theorem d_T_back_18 : decode m_T_back.2.1 18 = .ok (.getfield 10, 3) := by decide +kernel
theorem d_T_back_21 : decode m_T_back.2.1 21 = .ok (.aload_n 0, 1) := by decide +kernel
theorem d_T_back_22 : decode m_T_back.2.1 22 = .ok (.getfield 47, 3) := by decide +kernel
theorem d_T_back_25 : decode m_T_back.2.1 25 = .ok (.invokevirtual 295, 3) := by decide +kernel
theorem d_T_back_28 : decode m_T_back.2.1 28 = .ok (.aload_n 0, 1) := by decide +kernel
theorem d_T_back_29 : decode m_T_back.2.1 29 = .ok (.getfield 47, 3) := by decide +kernel
theorem d_T_back_32 : decode m_T_back.2.1 32 = .ok (.getfield 284, 3) := by decide +kernel
theorem d_T_back_35 : decode m_T_back.2.1 35 = .ok (.iconst 4, 1) := by decide +kernel
theorem d_T_back_36 : decode m_T_back.2.1 36 = .ok (.iaload, 1) := by decide +kernel
theorem d_T_back_37 : decode m_T_back.2.1 37 = .ok (.ireturn, 1) := by decide +kernel
theorem d_Ch_stepBack_0 : decode m_Ch_stepBack.2.1 0 = .ok (.aload_n 0, 1) := by decide +kernel
theorem d_Ch_stepBack_1 : decode m_Ch_stepBack.2.1 1 = .ok (.getfield 22, 3) := by decide +kernel
theorem d_Ch_stepBack_4 : decode m_Ch_stepBack.2.1 4 = .ok (.ifCond .le (44), 3) := by decide +kernel
theorem d_Ch_stepBack_48 : decode m_Ch_stepBack.2.1 48 = .ok (.return_, 1) := by decide +kernel
theorem d_Ch_stepBack_7 : decode m_Ch_stepBack.2.1 7 = .ok (.aload_n 0, 1) := by decide +kernel
theorem d_Ch_stepBack_8 : decode m_Ch_stepBack.2.1 8 = .ok (.dup, 1) := by decide +kernel
theorem d_Ch_stepBack_9 : decode m_Ch_stepBack.2.1 9 = .ok (.getfield 22, 3) := by decide +kernel
theorem d_Ch_stepBack_12 : decode m_Ch_stepBack.2.1 12 = .ok (.iconst 1, 1) := by decide +kernel
theorem d_Ch_stepBack_13 : decode m_Ch_stepBack.2.1 13 = .ok (.isub, 1) := by decide +kernel
theorem d_Ch_stepBack_14 : decode m_Ch_stepBack.2.1 14 = .ok (.putfield 22, 3) := by decide +kernel
theorem d_Ch_stepBack_17 : decode m_Ch_stepBack.2.1 17 = .ok (.aload_n 1, 1) := by decide +kernel
theorem d_Ch_stepBack_18 : decode m_Ch_stepBack.2.1 18 = .ok (.aload_n 0, 1) := by decide +kernel
theorem d_Ch_stepBack_19 : decode m_Ch_stepBack.2.1 19 = .ok (.getfield 9, 3) := by decide +kernel
theorem d_Ch_stepBack_22 : decode m_Ch_stepBack.2.1 22 = .ok (.aload_n 0, 1) := by decide +kernel
theorem d_Ch_stepBack_23 : decode m_Ch_stepBack.2.1 23 = .ok (.getfield 22, 3) := by decide +kernel
theorem d_Ch_stepBack_26 : decode m_Ch_stepBack.2.1 26 = .ok (.iaload, 1) := by decide +kernel
theorem d_Ch_stepBack_27 : decode m_Ch_stepBack.2.1 27 = .ok (.aload_n 0, 1) := by decide +kernel
theorem d_Ch_stepBack_28 : decode m_Ch_stepBack.2.1 28 = .ok (.getfield 13, 3) := by decide +kernel
theorem d_Ch_stepBack_31 : decode m_Ch_stepBack.2.1 31 = .ok (.aload_n 0, 1) := by decide +kernel
theorem d_Ch_stepBack_32 : decode m_Ch_stepBack.2.1 32 = .ok (.getfield 22, 3) := by decide +kernel
theorem d_Ch_stepBack_35 : decode m_Ch_stepBack.2.1 35 = .ok (.iaload, 1) := by decide +kernel
theorem d_Ch_stepBack_36 : decode m_Ch_stepBack.2.1 36 = .ok (.aload_n 0, 1) := by decide +kernel
theorem d_Ch_stepBack_37 : decode m_Ch_stepBack.2.1 37 = .ok (.getfield 16, 3) := by decide +kernel
theorem d_Ch_stepBack_40 : decode m_Ch_stepBack.2.1 40 = .ok (.aload_n 0, 1) := by decide +kernel
theorem d_Ch_stepBack_41 : decode m_Ch_stepBack.2.1 41 = .ok (.getfield 22, 3) := by decide +kernel
theorem d_Ch_stepBack_44 : decode m_Ch_stepBack.2.1 44 = .ok (.iaload, 1) := by decide +kernel
theorem d_Ch_stepBack_45 : decode m_Ch_stepBack.2.1 45 = .ok (.invokevirtual 38, 3) := by decide +kernel
theorem d_T_undo_0 : decode m_T_undo.2.1 0 = .ok (.aload_n 0, 1) := by decide +kernel
theorem d_T_undo_1 : decode m_T_undo.2.1 1 = .ok (.getfield 40, 3) := by decide +kernel
theorem d_T_undo_4 : decode m_T_undo.2.1 4 = .ok (.getfield 298, 3) := by decide +kernel
theorem d_T_undo_7 : decode m_T_undo.2.1 7 = .ok (.ifCond .ne (6), 3) := by decide +kernel
theorem d_T_undo_10 : decode m_T_undo.2.1 10 = .ok (.bipush (-5), 2) := by decide +kernel
theorem d_T_undo_12 : decode m_T_undo.2.1 12 = .ok (.ireturn, 1) := by decide +kernel
theorem d_T_undo_13 : decode m_T_undo.2.1 13 = .ok (.aload_n 0, 1) := by decide +kernel
theorem d_T_undo_14 : decode m_T_undo.2.1 14 = .ok (.getfield 40, 3) := by decide +kernel
theorem d_T_undo_17 : decode m_T_undo.2.1 17 = .ok (.aload_n 0, 1) := by decide +kernel
theorem d_T_undo_18 : decode m_T_undo.2.1 18 = .ok (.getfield 10, 3) := by decide +kernel
theorem d_T_undo_21 : decode m_T_undo.2.1 21 = .ok (.invokevirtual 301, 3) := by decide +kernel
theorem d_T_undo_24 : decode m_T_undo.2.1 24 = .ok (.aload_n 0, 1) := by decide +kernel
theorem d_T_undo_25 : decode m_T_undo.2.1 25 = .ok (.getfield 40, 3) := by decide +kernel
theorem d_T_undo_28 : decode m_T_undo.2.1 28 = .ok (.getfield 298, 3) := by decide +kernel
theorem d_T_undo_31 : decode m_T_undo.2.1 31 = .ok (.ireturn, 1) := by decide +kernel
theorem d_Ch_stepOn_0 : decode m_Ch_stepOn.2.1 0 = .ok (.aload_n 0, 1) := by decide +kernel
theorem d_Ch_stepOn_1 : decode m_Ch_stepOn.2.1 1 = .ok (.getfield 22, 3) := by decide +kernel
theorem d_Ch_stepOn_4 : decode m_Ch_stepOn.2.1 4 = .ok (.aload_n 0, 1) := by decide +kernel
theorem d_Ch_stepOn_5 : decode m_Ch_stepOn.2.1 5 = .ok (.getfield 29, 3) := by decide +kernel
theorem d_Ch_stepOn_8 : decode m_Ch_stepOn.2.1 8 = .ok (.if_icmp .ge (44), 3) := by decide +kernel
theorem d_Ch_stepOn_52 : decode m_Ch_stepOn.2.1 52 = .ok (.return_, 1) := by decide +kernel
theorem d_Ch_stepOn_11 : decode m_Ch_stepOn.2.1 11 = .ok (.aload_n 1, 1) := by decide +kernel
theorem d_Ch_stepOn_12 : decode m_Ch_stepOn.2.1 12 = .ok (.aload_n 0, 1) := by decide +kernel
theorem d_Ch_stepOn_13 : decode m_Ch_stepOn.2.1 13 = .ok (.getfield 9, 3) := by decide +kernel
theorem d_Ch_stepOn_16 : decode m_Ch_stepOn.2.1 16 = .ok (.aload_n 0, 1) := by decide +kernel
theorem d_Ch_stepOn_17 : decode m_Ch_stepOn.2.1 17 = .ok (.getfield 22, 3) := by decide +kernel
theorem d_Ch_stepOn_20 : decode m_Ch_stepOn.2.1 20 = .ok (.iaload, 1) := by decide +kernel
theorem d_Ch_stepOn_21 : decode m_Ch_stepOn.2.1 21 = .ok (.aload_n 0, 1) := by decide +kernel
theorem d_Ch_stepOn_22 : decode m_Ch_stepOn.2.1 22 = .ok (.getfield 13, 3) := by decide +kernel
theorem d_Ch_stepOn_25 : decode m_Ch_stepOn.2.1 25 = .ok (.aload_n 0, 1) := by decide +kernel
theorem d_Ch_stepOn_26 : decode m_Ch_stepOn.2.1 26 = .ok (.getfield 22, 3) := by decide +kernel
theorem d_Ch_stepOn_29 : decode m_Ch_stepOn.2.1 29 = .ok (.iaload, 1) := by decide +kernel
theorem d_Ch_stepOn_30 : decode m_Ch_stepOn.2.1 30 = .ok (.aload_n 0, 1) := by decide +kernel
theorem d_Ch_stepOn_31 : decode m_Ch_stepOn.2.1 31 = .ok (.getfield 19, 3) := by decide +kernel
theorem d_Ch_stepOn_34 : decode m_Ch_stepOn.2.1 34 = .ok (.aload_n 0, 1) := by decide +kernel
theorem d_Ch_stepOn_35 : decode m_Ch_stepOn.2.1 35 = .ok (.getfield 22, 3) := by decide +kernel
theorem d_Ch_stepOn_38 : decode m_Ch_stepOn.2.1 38 = .ok (.iaload, 1) := by decide +kernel
theorem d_Ch_stepOn_39 : decode m_Ch_stepOn.2.1 39 = .ok (.invokevirtual 38, 3) := by decide +kernel
theorem d_Ch_stepOn_42 : decode m_Ch_stepOn.2.1 42 = .ok (.aload_n 0, 1) := by decide +kernel
theorem d_Ch_stepOn_43 : decode m_Ch_stepOn.2.1 43 = .ok (.dup, 1) := by decide +kernel
theorem d_Ch_stepOn_44 : decode m_Ch_stepOn.2.1 44 = .ok (.getfield 22, 3) := by decide +kernel
theorem d_Ch_stepOn_47 : decode m_Ch_stepOn.2.1 47 = .ok (.iconst 1, 1) := by decide +kernel
theorem d_Ch_stepOn_48 : decode m_Ch_stepOn.2.1 48 = .ok (.iadd, 1) := by decide +kernel
theorem d_Ch_stepOn_49 : decode m_Ch_stepOn.2.1 49 = .ok (.putfield 22, 3) := by decide +kernel
theorem d_T_redo_0 : decode m_T_redo.2.1 0 = .ok (.aload_n 0, 1) := by decide +kernel
theorem d_T_redo_1 : decode m_T_redo.2.1 1 = .ok (.getfield 40, 3) := by decide +kernel
theorem d_T_redo_4 : decode m_T_redo.2.1 4 = .ok (.getfield 298, 3) := by decide +kernel
theorem d_T_redo_7 : decode m_T_redo.2.1 7 = .ok (.aload_n 0, 1) := by decide +kernel
theorem d_T_redo_8 : decode m_T_redo.2.1 8 = .ok (.getfield 40, 3) := by decide +kernel
theorem d_T_redo_11 : decode m_T_redo.2.1 11 = .ok (.getfield 304, 3) := by decide +kernel
theorem d_T_redo_14 : decode m_T_redo.2.1 14 = .ok (.if_icmp .ne (6), 3) := by decide +kernel
theorem d_T_redo_17 : decode m_T_redo.2.1 17 = .ok (.bipush (-5), 2) := by decide +kernel
theorem d_T_redo_19 : decode m_T_redo.2.1 19 = .ok (.ireturn, 1) := by decide +kernel
theorem d_T_redo_20 : decode m_T_redo.2.1 20 = .ok (.aload_n 0, 1) := by decide +kernel
theorem d_T_redo_21 : decode m_T_redo.2.1 21 = .ok (.getfield 40, 3) := by decide +kernel
theorem d_T_redo_24 : decode m_T_redo.2.1 24 = .ok (.aload_n 0, 1) := by decide +kernel
theorem d_T_redo_25 : decode m_T_redo.2.1 25 = .ok (.getfield 10, 3) := by decide +kernel
theorem d_T_redo_28 : decode m_T_redo.2.1 28 = .ok (.invokevirtual 307, 3) := by decide +kernel
theorem d_T_redo_31 : decode m_T_redo.2.1 31 = .ok (.aload_n 0, 1) := by decide +kernel
theorem d_T_redo_32 : decode m_T_redo.2.1 32 = .ok (.getfield 40, 3) := by decide +kernel
theorem d_T_redo_35 : decode m_T_redo.2.1 35 = .ok (.getfield 304, 3) := by decide +kernel
theorem d_T_redo_38 : decode m_T_redo.2.1 38 = .ok (.aload_n 0, 1) := by decide +kernel
theorem d_T_redo_39 : decode m_T_redo.2.1 39 = .ok (.getfield 40, 3) := by decide +kernel
theorem d_T_redo_42 : decode m_T_redo.2.1 42 = .ok (.getfield 298, 3) := by decide +kernel
theorem d_T_redo_45 : decode m_T_redo.2.1 45 = .ok (.isub, 1) := by decide +kernel
theorem d_T_redo_46 : decode m_T_redo.2.1 46 = .ok (.ireturn, 1) := by decide +kernel
theorem d_Wo_make_0 : decode m_Wo_make.2.1 0 = .ok (.aload_n 0, 1) := by decide +kernel
theorem d_Wo_make_1 : decode m_Wo_make.2.1 1 = .ok (.getfield 18, 3) := by decide +kernel
theorem d_Wo_make_4 : decode m_Wo_make.2.1 4 = .ok (.bipush (50), 2) := by decide +kernel
theorem d_Wo_make_6 : decode m_Wo_make.2.1 6 = .ok (.if_icmp .lt (6), 3) := by decide +kernel
theorem d_Wo_make_12 : decode m_Wo_make.2.1 12 = .ok (.aload_n 0, 1) := by decide +kernel
theorem d_Wo_make_13 : decode m_Wo_make.2.1 13 = .ok (.getfield 11, 3) := by decide +kernel
theorem d_Wo_make_16 : decode m_Wo_make.2.1 16 = .ok (.aload_n 0, 1) := by decide +kernel
theorem d_Wo_make_17 : decode m_Wo_make.2.1 17 = .ok (.getfield 18, 3) := by decide +kernel
theorem d_Wo_make_20 : decode m_Wo_make.2.1 20 = .ok (.iload_n 1, 1) := by decide +kernel
theorem d_Wo_make_21 : decode m_Wo_make.2.1 21 = .ok (.iastore, 1) := by decide +kernel
theorem d_Wo_make_22 : decode m_Wo_make.2.1 22 = .ok (.aload_n 0, 1) := by decide +kernel
theorem d_Wo_make_23 : decode m_Wo_make.2.1 23 = .ok (.dup, 1) := by decide +kernel
theorem d_Wo_make_24 : decode m_Wo_make.2.1 24 = .ok (.getfield 18, 3) := by decide +kernel
theorem d_Wo_make_27 : decode m_Wo_make.2.1 27 = .ok (.iconst 1, 1) := by decide +kernel
theorem d_Wo_make_28 : decode m_Wo_make.2.1 28 = .ok (.iadd, 1) := by decide +kernel
theorem d_Wo_make_29 : decode m_Wo_make.2.1 29 = .ok (.putfield 18, 3) := by decide +kernel
theorem d_Wo_make_32 : decode m_Wo_make.2.1 32 = .ok (.aload_n 0, 1) := by decide +kernel
theorem d_Wo_make_33 : decode m_Wo_make.2.1 33 = .ok (.getfield 18, 3) := by decide +kernel
theorem d_Wo_make_36 : decode m_Wo_make.2.1 36 = .ok (.iconst 1, 1) := by decide +kernel
theorem d_Wo_make_37 : decode m_Wo_make.2.1 37 = .ok (.isub, 1) := by decide +kernel
theorem d_Wo_make_38 : decode m_Wo_make.2.1 38 = .ok (.ireturn, 1) := by decide +kernel
theorem d_Wo_make_9 : decode m_Wo_make.2.1 9 = .ok (.bipush (-3), 2) := by decide +kernel
theorem d_Wo_make_11 : decode m_Wo_make.2.1 11 = .ok (.ireturn, 1) := by decide +kernel
theorem d_T_body_0 : decode m_T_body.2.1 0 = .ok (.iload_n 1, 1) := by decide +kernel
theorem d_T_body_1 : decode m_T_body.2.1 1 = .ok (.bipush (8), 2) := by decide +kernel
theorem d_T_body_3 : decode m_T_body.2.1 3 = .ok (.invokestatic 72, 3) := by decide +kernel
theorem d_T_body_6 : decode m_T_body.2.1 6 = .ok (.ifCond .eq (14), 3) := by decide +kernel
theorem d_T_body_20 : decode m_T_body.2.1 20 = .ok (.iconst (-1), 1) := by decide +kernel
theorem d_T_body_21 : decode m_T_body.2.1 21 = .ok (.ireturn, 1) := by decide +kernel
theorem d_T_body_9 : decode m_T_body.2.1 9 = .ok (.aload_n 0, 1) := by decide +kernel
theorem d_T_body_10 : decode m_T_body.2.1 10 = .ok (.getfield 61, 3) := by decide +kernel
theorem d_T_body_13 : decode m_T_body.2.1 13 = .ok (.iload_n 1, 1) := by decide +kernel
theorem d_T_body_14 : decode m_T_body.2.1 14 = .ok (.invokevirtual 310, 3) := by decide +kernel
theorem d_T_body_17 : decode m_T_body.2.1 17 = .ok (.goto (4), 3) := by decide +kernel
theorem d_Wo_note_0 : decode m_Wo_note.2.1 0 = .ok (.aload_n 0, 1) := by decide +kernel
theorem d_Wo_note_1 : decode m_Wo_note.2.1 1 = .ok (.getfield 29, 3) := by decide +kernel
theorem d_Wo_note_4 : decode m_Wo_note.2.1 4 = .ok (.bipush (24), 2) := by decide +kernel
theorem d_Wo_note_6 : decode m_Wo_note.2.1 6 = .ok (.if_icmp .ge (13), 3) := by decide +kernel
theorem d_Wo_note_19 : decode m_Wo_note.2.1 19 = .ok (.aload_n 0, 1) := by decide +kernel
theorem d_Wo_note_20 : decode m_Wo_note.2.1 20 = .ok (.dup, 1) := by decide +kernel
theorem d_Wo_note_21 : decode m_Wo_note.2.1 21 = .ok (.getfield 29, 3) := by decide +kernel
theorem d_Wo_note_24 : decode m_Wo_note.2.1 24 = .ok (.iconst 1, 1) := by decide +kernel
theorem d_Wo_note_25 : decode m_Wo_note.2.1 25 = .ok (.iadd, 1) := by decide +kernel
theorem d_Wo_note_26 : decode m_Wo_note.2.1 26 = .ok (.putfield 29, 3) := by decide +kernel
theorem d_Wo_note_29 : decode m_Wo_note.2.1 29 = .ok (.return_, 1) := by decide +kernel
theorem d_Wo_note_9 : decode m_Wo_note.2.1 9 = .ok (.aload_n 0, 1) := by decide +kernel
theorem d_Wo_note_10 : decode m_Wo_note.2.1 10 = .ok (.getfield 15, 3) := by decide +kernel
theorem d_Wo_note_13 : decode m_Wo_note.2.1 13 = .ok (.aload_n 0, 1) := by decide +kernel
theorem d_Wo_note_14 : decode m_Wo_note.2.1 14 = .ok (.getfield 29, 3) := by decide +kernel
theorem d_Wo_note_17 : decode m_Wo_note.2.1 17 = .ok (.iload_n 1, 1) := by decide +kernel
theorem d_Wo_note_18 : decode m_Wo_note.2.1 18 = .ok (.iastore, 1) := by decide +kernel
theorem d_Wo_owner_0 : decode m_Wo_owner.2.1 0 = .ok (.iload_n 0, 1) := by decide +kernel
theorem d_Wo_owner_1 : decode m_Wo_owner.2.1 1 = .ok (.istore_n 2, 1) := by decide +kernel
theorem d_Wo_owner_2 : decode m_Wo_owner.2.1 2 = .ok (.iconst 0, 1) := by decide +kernel
theorem d_Wo_owner_3 : decode m_Wo_owner.2.1 3 = .ok (.istore_n 3, 1) := by decide +kernel
theorem d_Wo_owner_4 : decode m_Wo_owner.2.1 4 = .ok (.iload_n 3, 1) := by decide +kernel
theorem d_Wo_owner_5 : decode m_Wo_owner.2.1 5 = .ok (.bipush (8), 2) := by decide +kernel
theorem d_Wo_owner_7 : decode m_Wo_owner.2.1 7 = .ok (.if_icmp .ge (36), 3) := by decide +kernel
theorem d_Wo_owner_43 : decode m_Wo_owner.2.1 43 = .ok (.iload_n 2, 1) := by decide +kernel
theorem d_Wo_owner_44 : decode m_Wo_owner.2.1 44 = .ok (.ireturn, 1) := by decide +kernel
theorem d_Wo_owner_10 : decode m_Wo_owner.2.1 10 = .ok (.iload_n 2, 1) := by decide +kernel
theorem d_Wo_owner_11 : decode m_Wo_owner.2.1 11 = .ok (.bipush (8), 2) := by decide +kernel
theorem d_Wo_owner_13 : decode m_Wo_owner.2.1 13 = .ok (.invokestatic 22, 3) := by decide +kernel
theorem d_Wo_owner_16 : decode m_Wo_owner.2.1 16 = .ok (.ifCond .eq (27), 3) := by decide +kernel
theorem d_Wo_owner_19 : decode m_Wo_owner.2.1 19 = .ok (.getstatic 39, 3) := by decide +kernel
theorem d_Wo_owner_22 : decode m_Wo_owner.2.1 22 = .ok (.iload_n 2, 1) := by decide +kernel
theorem d_Wo_owner_23 : decode m_Wo_owner.2.1 23 = .ok (.iconst 4, 1) := by decide +kernel
theorem d_Wo_owner_24 : decode m_Wo_owner.2.1 24 = .ok (.imul, 1) := by decide +kernel
theorem d_Wo_owner_25 : decode m_Wo_owner.2.1 25 = .ok (.iload_n 1, 1) := by decide +kernel
theorem d_Wo_owner_26 : decode m_Wo_owner.2.1 26 = .ok (.iadd, 1) := by decide +kernel
theorem d_Wo_owner_27 : decode m_Wo_owner.2.1 27 = .ok (.iaload, 1) := by decide +kernel
theorem d_Wo_owner_28 : decode m_Wo_owner.2.1 28 = .ok (.ifCond .ne (15), 3) := by decide +kernel
theorem d_Wo_owner_31 : decode m_Wo_owner.2.1 31 = .ok (.getstatic 26, 3) := by decide +kernel
theorem d_Wo_owner_34 : decode m_Wo_owner.2.1 34 = .ok (.iload_n 2, 1) := by decide +kernel
theorem d_Wo_owner_35 : decode m_Wo_owner.2.1 35 = .ok (.iaload, 1) := by decide +kernel
theorem d_Wo_owner_36 : decode m_Wo_owner.2.1 36 = .ok (.istore_n 2, 1) := by decide +kernel
theorem d_Wo_owner_37 : decode m_Wo_owner.2.1 37 = .ok (.iinc 3 (1), 3) := by decide +kernel
theorem d_Wo_owner_40 : decode m_Wo_owner.2.1 40 = .ok (.goto (-36), 3) := by decide +kernel
theorem d_Wo_run_0 : decode m_Wo_run.2.1 0 = .ok (.iload_n 1, 1) := by decide +kernel
theorem d_Wo_run_1 : decode m_Wo_run.2.1 1 = .ok (.iload_n 2, 1) := by decide +kernel
theorem d_Wo_run_2 : decode m_Wo_run.2.1 2 = .ok (.invokestatic 42, 3) := by decide +kernel
theorem d_Wo_run_5 : decode m_Wo_run.2.1 5 = .ok (.istore 5, 2) := by decide +kernel
theorem d_Wo_run_7 : decode m_Wo_run.2.1 7 = .ok (.iload 5, 2) := by decide +kernel
theorem d_Wo_run_9 : decode m_Wo_run.2.1 9 = .ok (.bipush (8), 2) := by decide +kernel
theorem d_Wo_run_11 : decode m_Wo_run.2.1 11 = .ok (.invokestatic 22, 3) := by decide +kernel
theorem d_Wo_run_14 : decode m_Wo_run.2.1 14 = .ok (.ifCond .eq (10), 3) := by decide +kernel
theorem d_Wo_run_24 : decode m_Wo_run.2.1 24 = .ok (.iconst 0, 1) := by decide +kernel
theorem d_Wo_run_25 : decode m_Wo_run.2.1 25 = .ok (.ireturn, 1) := by decide +kernel
theorem d_Wo_run_17 : decode m_Wo_run.2.1 17 = .ok (.iload 4, 2) := by decide +kernel
theorem d_Wo_run_19 : decode m_Wo_run.2.1 19 = .ok (.bipush (30), 2) := by decide +kernel
theorem d_Wo_run_21 : decode m_Wo_run.2.1 21 = .ok (.if_icmp .le (5), 3) := by decide +kernel
theorem d_Wo_run_26 : decode m_Wo_run.2.1 26 = .ok (.getstatic 39, 3) := by decide +kernel
theorem d_Wo_run_29 : decode m_Wo_run.2.1 29 = .ok (.iload 5, 2) := by decide +kernel
theorem d_Wo_run_31 : decode m_Wo_run.2.1 31 = .ok (.iconst 4, 1) := by decide +kernel
theorem d_Wo_run_32 : decode m_Wo_run.2.1 32 = .ok (.imul, 1) := by decide +kernel
theorem d_Wo_run_33 : decode m_Wo_run.2.1 33 = .ok (.iload_n 2, 1) := by decide +kernel
theorem d_Wo_run_34 : decode m_Wo_run.2.1 34 = .ok (.iadd, 1) := by decide +kernel
theorem d_Wo_run_35 : decode m_Wo_run.2.1 35 = .ok (.iaload, 1) := by decide +kernel
theorem d_Wo_run_36 : decode m_Wo_run.2.1 36 = .ok (.istore 6, 2) := by decide +kernel
theorem d_Wo_run_38 : decode m_Wo_run.2.1 38 = .ok (.getstatic 26, 3) := by decide +kernel
theorem d_Wo_run_41 : decode m_Wo_run.2.1 41 = .ok (.iload 5, 2) := by decide +kernel
theorem d_Wo_run_43 : decode m_Wo_run.2.1 43 = .ok (.iaload, 1) := by decide +kernel
theorem d_Wo_run_44 : decode m_Wo_run.2.1 44 = .ok (.istore 7, 2) := by decide +kernel
theorem d_Wo_run_46 : decode m_Wo_run.2.1 46 = .ok (.aload_n 0, 1) := by decide +kernel
theorem d_Wo_run_47 : decode m_Wo_run.2.1 47 = .ok (.getfield 11, 3) := by decide +kernel
theorem d_Wo_run_50 : decode m_Wo_run.2.1 50 = .ok (.aload_n 0, 1) := by decide +kernel
theorem d_Wo_run_51 : decode m_Wo_run.2.1 51 = .ok (.getfield 32, 3) := by decide +kernel
theorem d_Wo_run_54 : decode m_Wo_run.2.1 54 = .ok (.iaload, 1) := by decide +kernel
theorem d_Wo_run_55 : decode m_Wo_run.2.1 55 = .ok (.istore 8, 2) := by decide +kernel
theorem d_Wo_run_57 : decode m_Wo_run.2.1 57 = .ok (.iload 4, 2) := by decide +kernel
theorem d_Wo_run_59 : decode m_Wo_run.2.1 59 = .ok (.iconst 1, 1) := by decide +kernel
theorem d_Wo_run_60 : decode m_Wo_run.2.1 60 = .ok (.iadd, 1) := by decide +kernel
theorem d_Wo_run_61 : decode m_Wo_run.2.1 61 = .ok (.istore 9, 2) := by decide +kernel
theorem d_Wo_run_63 : decode m_Wo_run.2.1 63 = .ok (.aload_n 0, 1) := by decide +kernel
theorem d_Wo_run_64 : decode m_Wo_run.2.1 64 = .ok (.iload 6, 2) := by decide +kernel
theorem d_Wo_run_66 : decode m_Wo_run.2.1 66 = .ok (.invokevirtual 46, 3) := by decide +kernel
theorem d_Wo_run_69 : decode m_Wo_run.2.1 69 = .ok (.iload 6, 2) := by decide +kernel
theorem d_Wo_run_71 : decode m_Wo_run.2.1 71 = .ok (.lookupswitch (296) #[(1, 113), (2, 120), (10, 142), (11, 155), (20, 162), (30, 175), (40, 187), (41, 200), (50, 213), (60, 235), (70, 248), (80, 261), (81, 283)], 113) := by decide +kernel
theorem d_Wo_run_184 : decode m_Wo_run.2.1 184 = .ok (.iload_n 3, 1) := by decide +kernel
theorem d_Wo_run_185 : decode m_Wo_run.2.1 185 = .ok (.aload_n 0, 1) := by decide +kernel
theorem d_Wo_run_186 : decode m_Wo_run.2.1 186 = .ok (.getfield 32, 3) := by decide +kernel
theorem d_Wo_run_189 : decode m_Wo_run.2.1 189 = .ok (.iadd, 1) := by decide +kernel
theorem d_Wo_run_190 : decode m_Wo_run.2.1 190 = .ok (.ireturn, 1) := by decide +kernel
theorem d_Wo_run_191 : decode m_Wo_run.2.1 191 = .ok (.aload_n 0, 1) := by decide +kernel
theorem d_Wo_run_192 : decode m_Wo_run.2.1 192 = .ok (.iload 8, 2) := by decide +kernel
theorem d_Wo_run_194 : decode m_Wo_run.2.1 194 = .ok (.iconst 1, 1) := by decide +kernel
theorem d_Wo_run_195 : decode m_Wo_run.2.1 195 = .ok (.iload_n 3, 1) := by decide +kernel
theorem d_Wo_run_196 : decode m_Wo_run.2.1 196 = .ok (.iload 9, 2) := by decide +kernel
theorem d_Wo_run_198 : decode m_Wo_run.2.1 198 = .ok (.invokevirtual 35, 3) := by decide +kernel
theorem d_Wo_run_201 : decode m_Wo_run.2.1 201 = .ok (.aload_n 0, 1) := by decide +kernel
theorem d_Wo_run_202 : decode m_Wo_run.2.1 202 = .ok (.iload 8, 2) := by decide +kernel
theorem d_Wo_run_204 : decode m_Wo_run.2.1 204 = .ok (.iconst 2, 1) := by decide +kernel
theorem d_Wo_run_205 : decode m_Wo_run.2.1 205 = .ok (.iconst 1, 1) := by decide +kernel
theorem d_Wo_run_206 : decode m_Wo_run.2.1 206 = .ok (.iload 9, 2) := by decide +kernel
theorem d_Wo_run_208 : decode m_Wo_run.2.1 208 = .ok (.invokevirtual 35, 3) := by decide +kernel
theorem d_Wo_run_211 : decode m_Wo_run.2.1 211 = .ok (.isub, 1) := by decide +kernel
theorem d_Wo_run_212 : decode m_Wo_run.2.1 212 = .ok (.ireturn, 1) := by decide +kernel
theorem d_Wo_run_213 : decode m_Wo_run.2.1 213 = .ok (.aload_n 0, 1) := by decide +kernel
theorem d_Wo_run_214 : decode m_Wo_run.2.1 214 = .ok (.iload 8, 2) := by decide +kernel
theorem d_Wo_run_216 : decode m_Wo_run.2.1 216 = .ok (.iconst 0, 1) := by decide +kernel
theorem d_Wo_run_217 : decode m_Wo_run.2.1 217 = .ok (.iload_n 3, 1) := by decide +kernel
theorem d_Wo_run_218 : decode m_Wo_run.2.1 218 = .ok (.iload 9, 2) := by decide +kernel
theorem d_Wo_run_220 : decode m_Wo_run.2.1 220 = .ok (.invokevirtual 35, 3) := by decide +kernel
theorem d_Wo_run_223 : decode m_Wo_run.2.1 223 = .ok (.iconst 2, 1) := by decide +kernel
theorem d_Wo_run_224 : decode m_Wo_run.2.1 224 = .ok (.imul, 1) := by decide +kernel
theorem d_Wo_run_225 : decode m_Wo_run.2.1 225 = .ok (.ireturn, 1) := by decide +kernel
theorem d_Wo_run_226 : decode m_Wo_run.2.1 226 = .ok (.iload_n 3, 1) := by decide +kernel
theorem d_Wo_run_227 : decode m_Wo_run.2.1 227 = .ok (.aload_n 0, 1) := by decide +kernel
theorem d_Wo_run_228 : decode m_Wo_run.2.1 228 = .ok (.getfield 32, 3) := by decide +kernel
theorem d_Wo_run_231 : decode m_Wo_run.2.1 231 = .ok (.ixor, 1) := by decide +kernel
theorem d_Wo_run_232 : decode m_Wo_run.2.1 232 = .ok (.ireturn, 1) := by decide +kernel
theorem d_Wo_run_233 : decode m_Wo_run.2.1 233 = .ok (.aload_n 0, 1) := by decide +kernel
theorem d_Wo_run_234 : decode m_Wo_run.2.1 234 = .ok (.iload 7, 2) := by decide +kernel
theorem d_Wo_run_236 : decode m_Wo_run.2.1 236 = .ok (.iconst 0, 1) := by decide +kernel
theorem d_Wo_run_237 : decode m_Wo_run.2.1 237 = .ok (.iload_n 3, 1) := by decide +kernel
theorem d_Wo_run_238 : decode m_Wo_run.2.1 238 = .ok (.iload 9, 2) := by decide +kernel
theorem d_Wo_run_240 : decode m_Wo_run.2.1 240 = .ok (.invokevirtual 35, 3) := by decide +kernel
theorem d_Wo_run_243 : decode m_Wo_run.2.1 243 = .ok (.iconst 3, 1) := by decide +kernel
theorem d_Wo_run_244 : decode m_Wo_run.2.1 244 = .ok (.iadd, 1) := by decide +kernel
theorem d_Wo_run_245 : decode m_Wo_run.2.1 245 = .ok (.ireturn, 1) := by decide +kernel
theorem d_Wo_run_246 : decode m_Wo_run.2.1 246 = .ok (.aload_n 0, 1) := by decide +kernel
theorem d_Wo_run_247 : decode m_Wo_run.2.1 247 = .ok (.iload 7, 2) := by decide +kernel
theorem d_Wo_run_249 : decode m_Wo_run.2.1 249 = .ok (.iconst 1, 1) := by decide +kernel
theorem d_Wo_run_250 : decode m_Wo_run.2.1 250 = .ok (.iload_n 3, 1) := by decide +kernel
theorem d_Wo_run_251 : decode m_Wo_run.2.1 251 = .ok (.iload 9, 2) := by decide +kernel
theorem d_Wo_run_253 : decode m_Wo_run.2.1 253 = .ok (.invokevirtual 35, 3) := by decide +kernel
theorem d_Wo_run_256 : decode m_Wo_run.2.1 256 = .ok (.ineg, 1) := by decide +kernel
theorem d_Wo_run_257 : decode m_Wo_run.2.1 257 = .ok (.ireturn, 1) := by decide +kernel
theorem d_Wo_run_258 : decode m_Wo_run.2.1 258 = .ok (.aload_n 0, 1) := by decide +kernel
theorem d_Wo_run_259 : decode m_Wo_run.2.1 259 = .ok (.iload 7, 2) := by decide +kernel
theorem d_Wo_run_261 : decode m_Wo_run.2.1 261 = .ok (.iconst 2, 1) := by decide +kernel
theorem d_Wo_run_262 : decode m_Wo_run.2.1 262 = .ok (.iload_n 3, 1) := by decide +kernel
theorem d_Wo_run_263 : decode m_Wo_run.2.1 263 = .ok (.iload 9, 2) := by decide +kernel
theorem d_Wo_run_265 : decode m_Wo_run.2.1 265 = .ok (.invokevirtual 35, 3) := by decide +kernel
theorem d_Wo_run_268 : decode m_Wo_run.2.1 268 = .ok (.iconst 3, 1) := by decide +kernel
theorem d_Wo_run_269 : decode m_Wo_run.2.1 269 = .ok (.imul, 1) := by decide +kernel
theorem d_Wo_run_270 : decode m_Wo_run.2.1 270 = .ok (.ireturn, 1) := by decide +kernel
theorem d_Wo_run_271 : decode m_Wo_run.2.1 271 = .ok (.aload_n 0, 1) := by decide +kernel
theorem d_Wo_run_272 : decode m_Wo_run.2.1 272 = .ok (.iload 7, 2) := by decide +kernel
theorem d_Wo_run_274 : decode m_Wo_run.2.1 274 = .ok (.iconst 1, 1) := by decide +kernel
theorem d_Wo_run_275 : decode m_Wo_run.2.1 275 = .ok (.iload_n 3, 1) := by decide +kernel
theorem d_Wo_run_276 : decode m_Wo_run.2.1 276 = .ok (.iconst 1, 1) := by decide +kernel
theorem d_Wo_run_277 : decode m_Wo_run.2.1 277 = .ok (.iadd, 1) := by decide +kernel
theorem d_Wo_run_278 : decode m_Wo_run.2.1 278 = .ok (.iload 9, 2) := by decide +kernel
theorem d_Wo_run_280 : decode m_Wo_run.2.1 280 = .ok (.invokevirtual 35, 3) := by decide +kernel
theorem d_Wo_run_283 : decode m_Wo_run.2.1 283 = .ok (.ireturn, 1) := by decide +kernel
theorem d_Wo_run_284 : decode m_Wo_run.2.1 284 = .ok (.aload_n 0, 1) := by decide +kernel
theorem d_Wo_run_285 : decode m_Wo_run.2.1 285 = .ok (.iload 7, 2) := by decide +kernel
theorem d_Wo_run_287 : decode m_Wo_run.2.1 287 = .ok (.iconst 2, 1) := by decide +kernel
theorem d_Wo_run_288 : decode m_Wo_run.2.1 288 = .ok (.iload_n 3, 1) := by decide +kernel
theorem d_Wo_run_289 : decode m_Wo_run.2.1 289 = .ok (.iload 9, 2) := by decide +kernel
theorem d_Wo_run_291 : decode m_Wo_run.2.1 291 = .ok (.invokevirtual 35, 3) := by decide +kernel
theorem d_Wo_run_294 : decode m_Wo_run.2.1 294 = .ok (.aload_n 0, 1) := by decide +kernel
theorem d_Wo_run_295 : decode m_Wo_run.2.1 295 = .ok (.iload 8, 2) := by decide +kernel
theorem d_Wo_run_297 : decode m_Wo_run.2.1 297 = .ok (.iconst 0, 1) := by decide +kernel
theorem d_Wo_run_298 : decode m_Wo_run.2.1 298 = .ok (.iconst 2, 1) := by decide +kernel
theorem d_Wo_run_299 : decode m_Wo_run.2.1 299 = .ok (.iload 9, 2) := by decide +kernel
theorem d_Wo_run_301 : decode m_Wo_run.2.1 301 = .ok (.invokevirtual 35, 3) := by decide +kernel
theorem d_Wo_run_304 : decode m_Wo_run.2.1 304 = .ok (.isub, 1) := by decide +kernel
theorem d_Wo_run_305 : decode m_Wo_run.2.1 305 = .ok (.ireturn, 1) := by decide +kernel
theorem d_Wo_run_306 : decode m_Wo_run.2.1 306 = .ok (.aload_n 0, 1) := by decide +kernel
theorem d_Wo_run_307 : decode m_Wo_run.2.1 307 = .ok (.iload 7, 2) := by decide +kernel
theorem d_Wo_run_309 : decode m_Wo_run.2.1 309 = .ok (.iconst 3, 1) := by decide +kernel
theorem d_Wo_run_310 : decode m_Wo_run.2.1 310 = .ok (.iload_n 3, 1) := by decide +kernel
theorem d_Wo_run_311 : decode m_Wo_run.2.1 311 = .ok (.iload 9, 2) := by decide +kernel
theorem d_Wo_run_313 : decode m_Wo_run.2.1 313 = .ok (.invokevirtual 35, 3) := by decide +kernel
theorem d_Wo_run_316 : decode m_Wo_run.2.1 316 = .ok (.iconst 5, 1) := by decide +kernel
theorem d_Wo_run_317 : decode m_Wo_run.2.1 317 = .ok (.ixor, 1) := by decide +kernel
theorem d_Wo_run_318 : decode m_Wo_run.2.1 318 = .ok (.ireturn, 1) := by decide +kernel
theorem d_Wo_run_319 : decode m_Wo_run.2.1 319 = .ok (.aload_n 0, 1) := by decide +kernel
theorem d_Wo_run_320 : decode m_Wo_run.2.1 320 = .ok (.iload 7, 2) := by decide +kernel
theorem d_Wo_run_322 : decode m_Wo_run.2.1 322 = .ok (.iconst 0, 1) := by decide +kernel
theorem d_Wo_run_323 : decode m_Wo_run.2.1 323 = .ok (.iload_n 3, 1) := by decide +kernel
theorem d_Wo_run_324 : decode m_Wo_run.2.1 324 = .ok (.iload 9, 2) := by decide +kernel
theorem d_Wo_run_326 : decode m_Wo_run.2.1 326 = .ok (.invokevirtual 35, 3) := by decide +kernel
theorem d_Wo_run_329 : decode m_Wo_run.2.1 329 = .ok (.iconst 2, 1) := by decide +kernel
theorem d_Wo_run_330 : decode m_Wo_run.2.1 330 = .ok (.imul, 1) := by decide +kernel
theorem d_Wo_run_331 : decode m_Wo_run.2.1 331 = .ok (.ireturn, 1) := by decide +kernel
theorem d_Wo_run_332 : decode m_Wo_run.2.1 332 = .ok (.aload_n 0, 1) := by decide +kernel
theorem d_Wo_run_333 : decode m_Wo_run.2.1 333 = .ok (.iload 7, 2) := by decide +kernel
theorem d_Wo_run_335 : decode m_Wo_run.2.1 335 = .ok (.iconst 1, 1) := by decide +kernel
theorem d_Wo_run_336 : decode m_Wo_run.2.1 336 = .ok (.iload_n 3, 1) := by decide +kernel
theorem d_Wo_run_337 : decode m_Wo_run.2.1 337 = .ok (.iload 9, 2) := by decide +kernel
theorem d_Wo_run_339 : decode m_Wo_run.2.1 339 = .ok (.invokevirtual 35, 3) := by decide +kernel
theorem d_Wo_run_342 : decode m_Wo_run.2.1 342 = .ok (.aload_n 0, 1) := by decide +kernel
theorem d_Wo_run_343 : decode m_Wo_run.2.1 343 = .ok (.iload 8, 2) := by decide +kernel
theorem d_Wo_run_345 : decode m_Wo_run.2.1 345 = .ok (.iconst 2, 1) := by decide +kernel
theorem d_Wo_run_346 : decode m_Wo_run.2.1 346 = .ok (.iconst 2, 1) := by decide +kernel
theorem d_Wo_run_347 : decode m_Wo_run.2.1 347 = .ok (.iload 9, 2) := by decide +kernel
theorem d_Wo_run_349 : decode m_Wo_run.2.1 349 = .ok (.invokevirtual 35, 3) := by decide +kernel
theorem d_Wo_run_352 : decode m_Wo_run.2.1 352 = .ok (.iadd, 1) := by decide +kernel
theorem d_Wo_run_353 : decode m_Wo_run.2.1 353 = .ok (.ireturn, 1) := by decide +kernel
theorem d_Wo_run_354 : decode m_Wo_run.2.1 354 = .ok (.aload_n 0, 1) := by decide +kernel
theorem d_Wo_run_355 : decode m_Wo_run.2.1 355 = .ok (.iload 7, 2) := by decide +kernel
theorem d_Wo_run_357 : decode m_Wo_run.2.1 357 = .ok (.iconst 3, 1) := by decide +kernel
theorem d_Wo_run_358 : decode m_Wo_run.2.1 358 = .ok (.iload_n 3, 1) := by decide +kernel
theorem d_Wo_run_359 : decode m_Wo_run.2.1 359 = .ok (.iload 9, 2) := by decide +kernel
theorem d_Wo_run_361 : decode m_Wo_run.2.1 361 = .ok (.invokevirtual 35, 3) := by decide +kernel
theorem d_Wo_run_364 : decode m_Wo_run.2.1 364 = .ok (.iconst 1, 1) := by decide +kernel
theorem d_Wo_run_365 : decode m_Wo_run.2.1 365 = .ok (.isub, 1) := by decide +kernel
theorem d_Wo_run_366 : decode m_Wo_run.2.1 366 = .ok (.ireturn, 1) := by decide +kernel
theorem d_Wo_run_367 : decode m_Wo_run.2.1 367 = .ok (.iconst 0, 1) := by decide +kernel
theorem d_Wo_run_368 : decode m_Wo_run.2.1 368 = .ok (.ireturn, 1) := by decide +kernel
theorem d_Wo_start_0 : decode m_Wo_start.2.1 0 = .ok (.aload_n 0, 1) := by decide +kernel
theorem d_Wo_start_1 : decode m_Wo_start.2.1 1 = .ok (.iconst 0, 1) := by decide +kernel
theorem d_Wo_start_2 : decode m_Wo_start.2.1 2 = .ok (.putfield 29, 3) := by decide +kernel
theorem d_Wo_start_5 : decode m_Wo_start.2.1 5 = .ok (.iload_n 1, 1) := by decide +kernel
theorem d_Wo_start_6 : decode m_Wo_start.2.1 6 = .ok (.aload_n 0, 1) := by decide +kernel
theorem d_Wo_start_7 : decode m_Wo_start.2.1 7 = .ok (.getfield 18, 3) := by decide +kernel
theorem d_Wo_start_10 : decode m_Wo_start.2.1 10 = .ok (.invokestatic 22, 3) := by decide +kernel
theorem d_Wo_start_13 : decode m_Wo_start.2.1 13 = .ok (.ifCond .eq (11), 3) := by decide +kernel
theorem d_Wo_start_24 : decode m_Wo_start.2.1 24 = .ok (.iconst 0, 1) := by decide +kernel
theorem d_Wo_start_25 : decode m_Wo_start.2.1 25 = .ok (.ireturn, 1) := by decide +kernel
theorem d_Wo_start_16 : decode m_Wo_start.2.1 16 = .ok (.iload_n 2, 1) := by decide +kernel
theorem d_Wo_start_17 : decode m_Wo_start.2.1 17 = .ok (.iconst 4, 1) := by decide +kernel
theorem d_Wo_start_18 : decode m_Wo_start.2.1 18 = .ok (.invokestatic 22, 3) := by decide +kernel
theorem d_Wo_start_21 : decode m_Wo_start.2.1 21 = .ok (.ifCond .ne (5), 3) := by decide +kernel
theorem d_Wo_start_26 : decode m_Wo_start.2.1 26 = .ok (.aload_n 0, 1) := by decide +kernel
theorem d_Wo_start_27 : decode m_Wo_start.2.1 27 = .ok (.iload_n 1, 1) := by decide +kernel
theorem d_Wo_start_28 : decode m_Wo_start.2.1 28 = .ok (.putfield 32, 3) := by decide +kernel
theorem d_Wo_start_31 : decode m_Wo_start.2.1 31 = .ok (.aload_n 0, 1) := by decide +kernel
theorem d_Wo_start_32 : decode m_Wo_start.2.1 32 = .ok (.aload_n 0, 1) := by decide +kernel
theorem d_Wo_start_33 : decode m_Wo_start.2.1 33 = .ok (.getfield 11, 3) := by decide +kernel
theorem d_Wo_start_36 : decode m_Wo_start.2.1 36 = .ok (.iload_n 1, 1) := by decide +kernel
theorem d_Wo_start_37 : decode m_Wo_start.2.1 37 = .ok (.iaload, 1) := by decide +kernel
theorem d_Wo_start_38 : decode m_Wo_start.2.1 38 = .ok (.iload_n 2, 1) := by decide +kernel
theorem d_Wo_start_39 : decode m_Wo_start.2.1 39 = .ok (.iload_n 3, 1) := by decide +kernel
theorem d_Wo_start_40 : decode m_Wo_start.2.1 40 = .ok (.iconst 0, 1) := by decide +kernel
theorem d_Wo_start_41 : decode m_Wo_start.2.1 41 = .ok (.invokevirtual 35, 3) := by decide +kernel
theorem d_Wo_start_44 : decode m_Wo_start.2.1 44 = .ok (.ireturn, 1) := by decide +kernel
theorem d_T_act_0 : decode m_T_act.2.1 0 = .ok (.aload_n 0, 1) := by decide +kernel
theorem d_T_act_1 : decode m_T_act.2.1 1 = .ok (.getfield 61, 3) := by decide +kernel
theorem d_T_act_4 : decode m_T_act.2.1 4 = .ok (.iload_n 1, 1) := by decide +kernel
theorem d_T_act_5 : decode m_T_act.2.1 5 = .ok (.iload_n 2, 1) := by decide +kernel
theorem d_T_act_6 : decode m_T_act.2.1 6 = .ok (.iload_n 3, 1) := by decide +kernel
theorem d_T_act_7 : decode m_T_act.2.1 7 = .ok (.invokevirtual 313, 3) := by decide +kernel
theorem d_T_act_10 : decode m_T_act.2.1 10 = .ok (.ireturn, 1) := by decide +kernel
theorem d_T_trace_0 : decode m_T_trace.2.1 0 = .ok (.iload_n 1, 1) := by decide +kernel
theorem d_T_trace_1 : decode m_T_trace.2.1 1 = .ok (.aload_n 0, 1) := by decide +kernel
theorem d_T_trace_2 : decode m_T_trace.2.1 2 = .ok (.getfield 61, 3) := by decide +kernel
theorem d_T_trace_5 : decode m_T_trace.2.1 5 = .ok (.getfield 316, 3) := by decide +kernel
theorem d_T_trace_8 : decode m_T_trace.2.1 8 = .ok (.bipush (24), 2) := by decide +kernel
theorem d_T_trace_10 : decode m_T_trace.2.1 10 = .ok (.invokestatic 271, 3) := by decide +kernel
theorem d_T_trace_13 : decode m_T_trace.2.1 13 = .ok (.invokestatic 72, 3) := by decide +kernel
theorem d_T_trace_16 : decode m_T_trace.2.1 16 = .ok (.ifCond .eq (15), 3) := by decide +kernel
theorem d_T_trace_31 : decode m_T_trace.2.1 31 = .ok (.iconst (-1), 1) := by decide +kernel
theorem d_T_trace_32 : decode m_T_trace.2.1 32 = .ok (.ireturn, 1) := by decide +kernel
theorem d_T_trace_19 : decode m_T_trace.2.1 19 = .ok (.aload_n 0, 1) := by decide +kernel
theorem d_T_trace_20 : decode m_T_trace.2.1 20 = .ok (.getfield 61, 3) := by decide +kernel
theorem d_T_trace_23 : decode m_T_trace.2.1 23 = .ok (.getfield 319, 3) := by decide +kernel
theorem d_T_trace_26 : decode m_T_trace.2.1 26 = .ok (.iload_n 1, 1) := by decide +kernel
theorem d_T_trace_27 : decode m_T_trace.2.1 27 = .ok (.iaload, 1) := by decide +kernel
theorem d_T_trace_28 : decode m_T_trace.2.1 28 = .ok (.goto (4), 3) := by decide +kernel
theorem d_Sh_holdWord_0 : decode m_Sh_holdWord.2.1 0 = .ok (.aload_n 0, 1) := by decide +kernel
theorem d_Sh_holdWord_1 : decode m_Sh_holdWord.2.1 1 = .ok (.iload_n 1, 1) := by decide +kernel
theorem d_Sh_holdWord_2 : decode m_Sh_holdWord.2.1 2 = .ok (.ifCond .ge (7), 3) := by decide +kernel
theorem d_Sh_holdWord_9 : decode m_Sh_holdWord.2.1 9 = .ok (.iconst 1, 1) := by decide +kernel
theorem d_Sh_holdWord_10 : decode m_Sh_holdWord.2.1 10 = .ok (.putfield 15, 3) := by decide +kernel
theorem d_Sh_holdWord_13 : decode m_Sh_holdWord.2.1 13 = .ok (.aload_n 0, 1) := by decide +kernel
theorem d_Sh_holdWord_14 : decode m_Sh_holdWord.2.1 14 = .ok (.iload_n 1, 1) := by decide +kernel
theorem d_Sh_holdWord_15 : decode m_Sh_holdWord.2.1 15 = .ok (.putfield 19, 3) := by decide +kernel
theorem d_Sh_holdWord_18 : decode m_Sh_holdWord.2.1 18 = .ok (.return_, 1) := by decide +kernel
theorem d_Sh_holdWord_5 : decode m_Sh_holdWord.2.1 5 = .ok (.iconst 0, 1) := by decide +kernel
theorem d_Sh_holdWord_6 : decode m_Sh_holdWord.2.1 6 = .ok (.goto (4), 3) := by decide +kernel
theorem d_T_keep_0 : decode m_T_keep.2.1 0 = .ok (.iload_n 1, 1) := by decide +kernel
theorem d_T_keep_1 : decode m_T_keep.2.1 1 = .ok (.bipush (6), 2) := by decide +kernel
theorem d_T_keep_3 : decode m_T_keep.2.1 3 = .ok (.invokestatic 72, 3) := by decide +kernel
theorem d_T_keep_6 : decode m_T_keep.2.1 6 = .ok (.ifCond .eq (22), 3) := by decide +kernel
theorem d_T_keep_28 : decode m_T_keep.2.1 28 = .ok (.iconst (-1), 1) := by decide +kernel
theorem d_T_keep_29 : decode m_T_keep.2.1 29 = .ok (.ireturn, 1) := by decide +kernel
theorem d_T_keep_9 : decode m_T_keep.2.1 9 = .ok (.iload_n 2, 1) := by decide +kernel
theorem d_T_keep_10 : decode m_T_keep.2.1 10 = .ok (.iconst (-1), 1) := by decide +kernel
theorem d_T_keep_11 : decode m_T_keep.2.1 11 = .ok (.if_icmp .eq (19), 3) := by decide +kernel
theorem d_T_keep_30 : decode m_T_keep.2.1 30 = .ok (.aload_n 0, 1) := by decide +kernel
theorem d_T_keep_31 : decode m_T_keep.2.1 31 = .ok (.getfield 67, 3) := by decide +kernel
theorem d_T_keep_34 : decode m_T_keep.2.1 34 = .ok (.iload_n 1, 1) := by decide +kernel
theorem d_T_keep_35 : decode m_T_keep.2.1 35 = .ok (.aaload, 1) := by decide +kernel
theorem d_T_keep_36 : decode m_T_keep.2.1 36 = .ok (.iload_n 2, 1) := by decide +kernel
theorem d_T_keep_37 : decode m_T_keep.2.1 37 = .ok (.invokevirtual 323, 3) := by decide +kernel
theorem d_T_keep_40 : decode m_T_keep.2.1 40 = .ok (.iconst 1, 1) := by decide +kernel
theorem d_T_keep_41 : decode m_T_keep.2.1 41 = .ok (.ireturn, 1) := by decide +kernel
theorem d_T_keep_14 : decode m_T_keep.2.1 14 = .ok (.iload_n 2, 1) := by decide +kernel
theorem d_T_keep_15 : decode m_T_keep.2.1 15 = .ok (.aload_n 0, 1) := by decide +kernel
theorem d_T_keep_16 : decode m_T_keep.2.1 16 = .ok (.getfield 61, 3) := by decide +kernel
theorem d_T_keep_19 : decode m_T_keep.2.1 19 = .ok (.getfield 322, 3) := by decide +kernel
theorem d_T_keep_22 : decode m_T_keep.2.1 22 = .ok (.invokestatic 72, 3) := by decide +kernel
theorem d_T_keep_25 : decode m_T_keep.2.1 25 = .ok (.ifCond .ne (5), 3) := by decide +kernel
theorem d_JA_fillJ_0 : decode m_JA_fillJ.2.1 0 = .ok (.iconst 0, 1) := by decide +kernel
theorem d_JA_fillJ_1 : decode m_JA_fillJ.2.1 1 = .ok (.istore_n 3, 1) := by decide +kernel
theorem d_JA_fillJ_2 : decode m_JA_fillJ.2.1 2 = .ok (.aload_n 0, 1) := by decide +kernel
theorem d_JA_fillJ_3 : decode m_JA_fillJ.2.1 3 = .ok (.arraylength, 1) := by decide +kernel
theorem d_JA_fillJ_4 : decode m_JA_fillJ.2.1 4 = .ok (.istore 4, 2) := by decide +kernel
theorem d_JA_fillJ_6 : decode m_JA_fillJ.2.1 6 = .ok (.iload_n 3, 1) := by decide +kernel
theorem d_JA_fillJ_7 : decode m_JA_fillJ.2.1 7 = .ok (.iload 4, 2) := by decide +kernel
theorem d_JA_fillJ_9 : decode m_JA_fillJ.2.1 9 = .ok (.if_icmp .ge (13), 3) := by decide +kernel
theorem d_JA_fillJ_12 : decode m_JA_fillJ.2.1 12 = .ok (.aload_n 0, 1) := by decide +kernel
theorem d_JA_fillJ_13 : decode m_JA_fillJ.2.1 13 = .ok (.iload_n 3, 1) := by decide +kernel
theorem d_JA_fillJ_14 : decode m_JA_fillJ.2.1 14 = .ok (.lload_n 1, 1) := by decide +kernel
theorem d_JA_fillJ_15 : decode m_JA_fillJ.2.1 15 = .ok (.lastore, 1) := by decide +kernel
theorem d_JA_fillJ_16 : decode m_JA_fillJ.2.1 16 = .ok (.iinc 3 (1), 3) := by decide +kernel
theorem d_JA_fillJ_19 : decode m_JA_fillJ.2.1 19 = .ok (.goto (-13), 3) := by decide +kernel
theorem d_JA_fillJ_22 : decode m_JA_fillJ.2.1 22 = .ok (.return_, 1) := by decide +kernel
theorem d_Sh_holdRow_0 : decode m_Sh_holdRow.2.1 0 = .ok (.aload_n 0, 1) := by decide +kernel
theorem d_Sh_holdRow_1 : decode m_Sh_holdRow.2.1 1 = .ok (.getfield 11, 3) := by decide +kernel
theorem d_Sh_holdRow_4 : decode m_Sh_holdRow.2.1 4 = .ok (.lconst 0, 1) := by decide +kernel
theorem d_Sh_holdRow_5 : decode m_Sh_holdRow.2.1 5 = .ok (.invokestatic 22, 3) := by decide +kernel
theorem d_Sh_holdRow_8 : decode m_Sh_holdRow.2.1 8 = .ok (.aload_n 0, 1) := by decide +kernel
theorem d_Sh_holdRow_9 : decode m_Sh_holdRow.2.1 9 = .ok (.iconst 2, 1) := by decide +kernel
theorem d_Sh_holdRow_10 : decode m_Sh_holdRow.2.1 10 = .ok (.putfield 15, 3) := by decide +kernel
theorem d_Sh_holdRow_13 : decode m_Sh_holdRow.2.1 13 = .ok (.aload_n 0, 1) := by decide +kernel
theorem d_Sh_holdRow_14 : decode m_Sh_holdRow.2.1 14 = .ok (.iload_n 1, 1) := by decide +kernel
theorem d_Sh_holdRow_15 : decode m_Sh_holdRow.2.1 15 = .ok (.putfield 28, 3) := by decide +kernel
theorem d_Sh_holdRow_18 : decode m_Sh_holdRow.2.1 18 = .ok (.aload_n 0, 1) := by decide +kernel
theorem d_Sh_holdRow_19 : decode m_Sh_holdRow.2.1 19 = .ok (.iload_n 2, 1) := by decide +kernel
theorem d_Sh_holdRow_20 : decode m_Sh_holdRow.2.1 20 = .ok (.putfield 31, 3) := by decide +kernel
theorem d_Sh_holdRow_23 : decode m_Sh_holdRow.2.1 23 = .ok (.return_, 1) := by decide +kernel
theorem d_T_row_0 : decode m_T_row.2.1 0 = .ok (.iload_n 1, 1) := by decide +kernel
theorem d_T_row_1 : decode m_T_row.2.1 1 = .ok (.bipush (6), 2) := by decide +kernel
theorem d_T_row_3 : decode m_T_row.2.1 3 = .ok (.invokestatic 72, 3) := by decide +kernel
theorem d_T_row_6 : decode m_T_row.2.1 6 = .ok (.ifCond .eq (17), 3) := by decide +kernel
theorem d_T_row_23 : decode m_T_row.2.1 23 = .ok (.iconst (-1), 1) := by decide +kernel
theorem d_T_row_24 : decode m_T_row.2.1 24 = .ok (.ireturn, 1) := by decide +kernel
theorem d_T_row_9 : decode m_T_row.2.1 9 = .ok (.iload_n 2, 1) := by decide +kernel
theorem d_T_row_10 : decode m_T_row.2.1 10 = .ok (.iconst 5, 1) := by decide +kernel
theorem d_T_row_11 : decode m_T_row.2.1 11 = .ok (.invokestatic 72, 3) := by decide +kernel
theorem d_T_row_14 : decode m_T_row.2.1 14 = .ok (.ifCond .eq (9), 3) := by decide +kernel
theorem d_T_row_17 : decode m_T_row.2.1 17 = .ok (.iload_n 3, 1) := by decide +kernel
theorem d_T_row_18 : decode m_T_row.2.1 18 = .ok (.bipush (60), 2) := by decide +kernel
theorem d_T_row_20 : decode m_T_row.2.1 20 = .ok (.if_icmp .le (5), 3) := by decide +kernel
theorem d_T_row_25 : decode m_T_row.2.1 25 = .ok (.iload_n 3, 1) := by decide +kernel
theorem d_T_row_26 : decode m_T_row.2.1 26 = .ok (.ifCond .ge (6), 3) := by decide +kernel
theorem d_T_row_32 : decode m_T_row.2.1 32 = .ok (.aload_n 0, 1) := by decide +kernel
theorem d_T_row_33 : decode m_T_row.2.1 33 = .ok (.getfield 67, 3) := by decide +kernel
theorem d_T_row_36 : decode m_T_row.2.1 36 = .ok (.iload_n 1, 1) := by decide +kernel
theorem d_T_row_37 : decode m_T_row.2.1 37 = .ok (.aaload, 1) := by decide +kernel
theorem d_T_row_38 : decode m_T_row.2.1 38 = .ok (.iload_n 2, 1) := by decide +kernel
theorem d_T_row_39 : decode m_T_row.2.1 39 = .ok (.iload_n 3, 1) := by decide +kernel
theorem d_T_row_40 : decode m_T_row.2.1 40 = .ok (.invokevirtual 327, 3) := by decide +kernel
theorem d_T_row_43 : decode m_T_row.2.1 43 = .ok (.iconst 1, 1) := by decide +kernel
theorem d_T_row_44 : decode m_T_row.2.1 44 = .ok (.ireturn, 1) := by decide +kernel
theorem d_T_row_29 : decode m_T_row.2.1 29 = .ok (.bipush (-14), 2) := by decide +kernel
theorem d_T_row_31 : decode m_T_row.2.1 31 = .ok (.ireturn, 1) := by decide +kernel
theorem d_Sh_kept_0 : decode m_Sh_kept.2.1 0 = .ok (.aload_n 0, 1) := by decide +kernel
theorem d_Sh_kept_1 : decode m_Sh_kept.2.1 1 = .ok (.getfield 28, 3) := by decide +kernel
theorem d_Sh_kept_4 : decode m_Sh_kept.2.1 4 = .ok (.tableswitch (48) (0) (3) #[32, 37, 42, 46], 32) := by decide +kernel
theorem d_Sh_kept_36 : decode m_Sh_kept.2.1 36 = .ok (.lload_n 1, 1) := by decide +kernel
theorem d_Sh_kept_37 : decode m_Sh_kept.2.1 37 = .ok (.l2i, 1) := by decide +kernel
theorem d_Sh_kept_38 : decode m_Sh_kept.2.1 38 = .ok (.i2b, 1) := by decide +kernel
theorem d_Sh_kept_39 : decode m_Sh_kept.2.1 39 = .ok (.i2l, 1) := by decide +kernel
theorem d_Sh_kept_40 : decode m_Sh_kept.2.1 40 = .ok (.lreturn, 1) := by decide +kernel
theorem d_Sh_kept_41 : decode m_Sh_kept.2.1 41 = .ok (.lload_n 1, 1) := by decide +kernel
theorem d_Sh_kept_42 : decode m_Sh_kept.2.1 42 = .ok (.l2i, 1) := by decide +kernel
theorem d_Sh_kept_43 : decode m_Sh_kept.2.1 43 = .ok (.i2s, 1) := by decide +kernel
theorem d_Sh_kept_44 : decode m_Sh_kept.2.1 44 = .ok (.i2l, 1) := by decide +kernel
theorem d_Sh_kept_45 : decode m_Sh_kept.2.1 45 = .ok (.lreturn, 1) := by decide +kernel
theorem d_Sh_kept_46 : decode m_Sh_kept.2.1 46 = .ok (.lload_n 1, 1) := by decide +kernel
theorem d_Sh_kept_47 : decode m_Sh_kept.2.1 47 = .ok (.l2i, 1) := by decide +kernel
theorem d_Sh_kept_48 : decode m_Sh_kept.2.1 48 = .ok (.i2l, 1) := by decide +kernel
theorem d_Sh_kept_49 : decode m_Sh_kept.2.1 49 = .ok (.lreturn, 1) := by decide +kernel
theorem d_Sh_kept_50 : decode m_Sh_kept.2.1 50 = .ok (.lload_n 1, 1) := by decide +kernel
theorem d_Sh_kept_51 : decode m_Sh_kept.2.1 51 = .ok (.lreturn, 1) := by decide +kernel
theorem d_Sh_kept_52 : decode m_Sh_kept.2.1 52 = .ok (.lload_n 1, 1) := by decide +kernel
theorem d_Sh_kept_53 : decode m_Sh_kept.2.1 53 = .ok (.lconst 0, 1) := by decide +kernel
theorem d_Sh_kept_54 : decode m_Sh_kept.2.1 54 = .ok (.lcmp, 1) := by decide +kernel
theorem d_Sh_kept_55 : decode m_Sh_kept.2.1 55 = .ok (.ifCond .eq (7), 3) := by decide +kernel
theorem d_Sh_kept_62 : decode m_Sh_kept.2.1 62 = .ok (.lconst 0, 1) := by decide +kernel
theorem d_Sh_kept_63 : decode m_Sh_kept.2.1 63 = .ok (.lreturn, 1) := by decide +kernel
theorem d_Sh_kept_58 : decode m_Sh_kept.2.1 58 = .ok (.lconst 1, 1) := by decide +kernel
theorem d_Sh_kept_59 : decode m_Sh_kept.2.1 59 = .ok (.goto (4), 3) := by decide +kernel
theorem d_T_put_0 : decode m_T_put.2.1 0 = .ok (.iload_n 1, 1) := by decide +kernel
theorem d_T_put_1 : decode m_T_put.2.1 1 = .ok (.bipush (6), 2) := by decide +kernel
theorem d_T_put_3 : decode m_T_put.2.1 3 = .ok (.invokestatic 72, 3) := by decide +kernel
theorem d_T_put_6 : decode m_T_put.2.1 6 = .ok (.ifCond .ne (5), 3) := by decide +kernel
theorem d_T_put_9 : decode m_T_put.2.1 9 = .ok (.iconst (-1), 1) := by decide +kernel
theorem d_T_put_10 : decode m_T_put.2.1 10 = .ok (.ireturn, 1) := by decide +kernel
theorem d_T_put_11 : decode m_T_put.2.1 11 = .ok (.aload_n 0, 1) := by decide +kernel
theorem d_T_put_12 : decode m_T_put.2.1 12 = .ok (.getfield 67, 3) := by decide +kernel
theorem d_T_put_15 : decode m_T_put.2.1 15 = .ok (.iload_n 1, 1) := by decide +kernel
theorem d_T_put_16 : decode m_T_put.2.1 16 = .ok (.aaload, 1) := by decide +kernel
theorem d_T_put_17 : decode m_T_put.2.1 17 = .ok (.astore 5, 2) := by decide +kernel
theorem d_T_put_19 : decode m_T_put.2.1 19 = .ok (.aload 5, 2) := by decide +kernel
theorem d_T_put_21 : decode m_T_put.2.1 21 = .ok (.getfield 80, 3) := by decide +kernel
theorem d_T_put_24 : decode m_T_put.2.1 24 = .ok (.iconst 2, 1) := by decide +kernel
theorem d_T_put_25 : decode m_T_put.2.1 25 = .ok (.if_icmp .eq (9), 3) := by decide +kernel
theorem d_T_put_34 : decode m_T_put.2.1 34 = .ok (.aload 5, 2) := by decide +kernel
theorem d_T_put_36 : decode m_T_put.2.1 36 = .ok (.iload_n 2, 1) := by decide +kernel
theorem d_T_put_37 : decode m_T_put.2.1 37 = .ok (.iconst 1, 1) := by decide +kernel
theorem d_T_put_38 : decode m_T_put.2.1 38 = .ok (.invokevirtual 88, 3) := by decide +kernel
theorem d_T_put_41 : decode m_T_put.2.1 41 = .ok (.ifCond .ne (6), 3) := by decide +kernel
theorem d_T_put_44 : decode m_T_put.2.1 44 = .ok (.bipush (-13), 2) := by decide +kernel
theorem d_T_put_46 : decode m_T_put.2.1 46 = .ok (.ireturn, 1) := by decide +kernel
theorem d_T_put_47 : decode m_T_put.2.1 47 = .ok (.aload 5, 2) := by decide +kernel
theorem d_T_put_49 : decode m_T_put.2.1 49 = .ok (.getfield 330, 3) := by decide +kernel
theorem d_T_put_52 : decode m_T_put.2.1 52 = .ok (.iload_n 2, 1) := by decide +kernel
theorem d_T_put_53 : decode m_T_put.2.1 53 = .ok (.aload 5, 2) := by decide +kernel
theorem d_T_put_55 : decode m_T_put.2.1 55 = .ok (.lload_n 3, 1) := by decide +kernel
theorem d_T_put_56 : decode m_T_put.2.1 56 = .ok (.invokevirtual 334, 3) := by decide +kernel
theorem d_T_put_59 : decode m_T_put.2.1 59 = .ok (.lastore, 1) := by decide +kernel
theorem d_T_put_60 : decode m_T_put.2.1 60 = .ok (.iconst 1, 1) := by decide +kernel
theorem d_T_put_61 : decode m_T_put.2.1 61 = .ok (.ireturn, 1) := by decide +kernel
theorem d_T_put_28 : decode m_T_put.2.1 28 = .ok (.aload 5, 2) := by decide +kernel
theorem d_T_put_30 : decode m_T_put.2.1 30 = .ok (.invokevirtual 146, 3) := by decide +kernel
theorem d_T_put_33 : decode m_T_put.2.1 33 = .ok (.ireturn, 1) := by decide +kernel
theorem d_T_element_0 : decode m_T_element.2.1 0 = .ok (.iload_n 1, 1) := by decide +kernel
theorem d_T_element_1 : decode m_T_element.2.1 1 = .ok (.bipush (6), 2) := by decide +kernel
theorem d_T_element_3 : decode m_T_element.2.1 3 = .ok (.invokestatic 72, 3) := by decide +kernel
theorem d_T_element_6 : decode m_T_element.2.1 6 = .ok (.ifCond .eq (30), 3) := by decide +kernel
theorem d_T_element_36 : decode m_T_element.2.1 36 = .ok (.ldc2_w 200, 3) := by decide +kernel
theorem d_T_element_39 : decode m_T_element.2.1 39 = .ok (.lreturn, 1) := by decide +kernel
theorem d_T_element_9 : decode m_T_element.2.1 9 = .ok (.aload_n 0, 1) := by decide +kernel
theorem d_T_element_10 : decode m_T_element.2.1 10 = .ok (.getfield 67, 3) := by decide +kernel
theorem d_T_element_13 : decode m_T_element.2.1 13 = .ok (.iload_n 1, 1) := by decide +kernel
theorem d_T_element_14 : decode m_T_element.2.1 14 = .ok (.aaload, 1) := by decide +kernel
theorem d_T_element_15 : decode m_T_element.2.1 15 = .ok (.getfield 80, 3) := by decide +kernel
theorem d_T_element_18 : decode m_T_element.2.1 18 = .ok (.iconst 2, 1) := by decide +kernel
theorem d_T_element_19 : decode m_T_element.2.1 19 = .ok (.if_icmp .ne (17), 3) := by decide +kernel
theorem d_T_element_22 : decode m_T_element.2.1 22 = .ok (.aload_n 0, 1) := by decide +kernel
theorem d_T_element_23 : decode m_T_element.2.1 23 = .ok (.getfield 67, 3) := by decide +kernel
theorem d_T_element_26 : decode m_T_element.2.1 26 = .ok (.iload_n 1, 1) := by decide +kernel
theorem d_T_element_27 : decode m_T_element.2.1 27 = .ok (.aaload, 1) := by decide +kernel
theorem d_T_element_28 : decode m_T_element.2.1 28 = .ok (.iload_n 2, 1) := by decide +kernel
theorem d_T_element_29 : decode m_T_element.2.1 29 = .ok (.iconst 1, 1) := by decide +kernel
theorem d_T_element_30 : decode m_T_element.2.1 30 = .ok (.invokevirtual 88, 3) := by decide +kernel
theorem d_T_element_33 : decode m_T_element.2.1 33 = .ok (.ifCond .ne (7), 3) := by decide +kernel
theorem d_T_element_40 : decode m_T_element.2.1 40 = .ok (.aload_n 0, 1) := by decide +kernel
theorem d_T_element_41 : decode m_T_element.2.1 41 = .ok (.getfield 67, 3) := by decide +kernel
theorem d_T_element_44 : decode m_T_element.2.1 44 = .ok (.iload_n 1, 1) := by decide +kernel
theorem d_T_element_45 : decode m_T_element.2.1 45 = .ok (.aaload, 1) := by decide +kernel
theorem d_T_element_46 : decode m_T_element.2.1 46 = .ok (.getfield 330, 3) := by decide +kernel
theorem d_T_element_49 : decode m_T_element.2.1 49 = .ok (.iload_n 2, 1) := by decide +kernel
theorem d_T_element_50 : decode m_T_element.2.1 50 = .ok (.laload, 1) := by decide +kernel
theorem d_T_element_51 : decode m_T_element.2.1 51 = .ok (.lreturn, 1) := by decide +kernel
theorem d_T_shift_0 : decode m_T_shift.2.1 0 = .ok (.iload_n 1, 1) := by decide +kernel
theorem d_T_shift_1 : decode m_T_shift.2.1 1 = .ok (.bipush (6), 2) := by decide +kernel
theorem d_T_shift_3 : decode m_T_shift.2.1 3 = .ok (.invokestatic 72, 3) := by decide +kernel
theorem d_T_shift_6 : decode m_T_shift.2.1 6 = .ok (.ifCond .eq (12), 3) := by decide +kernel
theorem d_T_shift_18 : decode m_T_shift.2.1 18 = .ok (.iconst (-1), 1) := by decide +kernel
theorem d_T_shift_19 : decode m_T_shift.2.1 19 = .ok (.ireturn, 1) := by decide +kernel
theorem d_T_shift_9 : decode m_T_shift.2.1 9 = .ok (.iload_n 3, 1) := by decide +kernel
theorem d_T_shift_10 : decode m_T_shift.2.1 10 = .ok (.bipush (6), 2) := by decide +kernel
theorem d_T_shift_12 : decode m_T_shift.2.1 12 = .ok (.invokestatic 72, 3) := by decide +kernel
theorem d_T_shift_15 : decode m_T_shift.2.1 15 = .ok (.ifCond .ne (5), 3) := by decide +kernel
theorem d_T_shift_20 : decode m_T_shift.2.1 20 = .ok (.aload_n 0, 1) := by decide +kernel
theorem d_T_shift_21 : decode m_T_shift.2.1 21 = .ok (.getfield 67, 3) := by decide +kernel
theorem d_T_shift_24 : decode m_T_shift.2.1 24 = .ok (.iload_n 1, 1) := by decide +kernel
theorem d_T_shift_25 : decode m_T_shift.2.1 25 = .ok (.aaload, 1) := by decide +kernel
theorem d_T_shift_26 : decode m_T_shift.2.1 26 = .ok (.astore 6, 2) := by decide +kernel
theorem d_T_shift_28 : decode m_T_shift.2.1 28 = .ok (.aload_n 0, 1) := by decide +kernel
theorem d_T_shift_29 : decode m_T_shift.2.1 29 = .ok (.getfield 67, 3) := by decide +kernel
theorem d_T_shift_32 : decode m_T_shift.2.1 32 = .ok (.iload_n 3, 1) := by decide +kernel
theorem d_T_shift_33 : decode m_T_shift.2.1 33 = .ok (.aaload, 1) := by decide +kernel
theorem d_T_shift_34 : decode m_T_shift.2.1 34 = .ok (.astore 7, 2) := by decide +kernel
theorem d_T_shift_36 : decode m_T_shift.2.1 36 = .ok (.aload 6, 2) := by decide +kernel
theorem d_T_shift_38 : decode m_T_shift.2.1 38 = .ok (.getfield 80, 3) := by decide +kernel
theorem d_T_shift_41 : decode m_T_shift.2.1 41 = .ok (.ifCond .eq (11), 3) := by decide +kernel
theorem d_T_shift_52 : decode m_T_shift.2.1 52 = .ok (.bipush (-11), 2) := by decide +kernel
theorem d_T_shift_54 : decode m_T_shift.2.1 54 = .ok (.ireturn, 1) := by decide +kernel
theorem d_T_shift_44 : decode m_T_shift.2.1 44 = .ok (.aload 7, 2) := by decide +kernel
theorem d_T_shift_46 : decode m_T_shift.2.1 46 = .ok (.getfield 80, 3) := by decide +kernel
theorem d_T_shift_49 : decode m_T_shift.2.1 49 = .ok (.ifCond .ne (6), 3) := by decide +kernel
theorem d_T_shift_55 : decode m_T_shift.2.1 55 = .ok (.aload 6, 2) := by decide +kernel
theorem d_T_shift_57 : decode m_T_shift.2.1 57 = .ok (.getfield 80, 3) := by decide +kernel
theorem d_T_shift_60 : decode m_T_shift.2.1 60 = .ok (.iconst 2, 1) := by decide +kernel
theorem d_T_shift_61 : decode m_T_shift.2.1 61 = .ok (.if_icmp .ne (25), 3) := by decide +kernel
theorem d_T_shift_64 : decode m_T_shift.2.1 64 = .ok (.aload 7, 2) := by decide +kernel
theorem d_T_shift_66 : decode m_T_shift.2.1 66 = .ok (.getfield 80, 3) := by decide +kernel
theorem d_T_shift_69 : decode m_T_shift.2.1 69 = .ok (.iconst 2, 1) := by decide +kernel
theorem d_T_shift_70 : decode m_T_shift.2.1 70 = .ok (.if_icmp .ne (16), 3) := by decide +kernel
theorem d_T_shift_73 : decode m_T_shift.2.1 73 = .ok (.aload 6, 2) := by decide +kernel
theorem d_T_shift_75 : decode m_T_shift.2.1 75 = .ok (.getfield 338, 3) := by decide +kernel
theorem d_T_shift_78 : decode m_T_shift.2.1 78 = .ok (.aload 7, 2) := by decide +kernel
theorem d_T_shift_80 : decode m_T_shift.2.1 80 = .ok (.getfield 338, 3) := by decide +kernel
theorem d_T_shift_83 : decode m_T_shift.2.1 83 = .ok (.if_icmp .eq (6), 3) := by decide +kernel
theorem d_T_shift_89 : decode m_T_shift.2.1 89 = .ok (.aload 6, 2) := by decide +kernel
theorem d_T_shift_91 : decode m_T_shift.2.1 91 = .ok (.iload_n 2, 1) := by decide +kernel
theorem d_T_shift_92 : decode m_T_shift.2.1 92 = .ok (.iload 5, 2) := by decide +kernel
theorem d_T_shift_94 : decode m_T_shift.2.1 94 = .ok (.invokevirtual 88, 3) := by decide +kernel
theorem d_T_shift_97 : decode m_T_shift.2.1 97 = .ok (.ifCond .eq (15), 3) := by decide +kernel
theorem d_T_shift_112 : decode m_T_shift.2.1 112 = .ok (.bipush (-13), 2) := by decide +kernel
theorem d_T_shift_114 : decode m_T_shift.2.1 114 = .ok (.ireturn, 1) := by decide +kernel
theorem d_T_shift_100 : decode m_T_shift.2.1 100 = .ok (.aload 7, 2) := by decide +kernel
theorem d_T_shift_102 : decode m_T_shift.2.1 102 = .ok (.iload 4, 2) := by decide +kernel
theorem d_T_shift_104 : decode m_T_shift.2.1 104 = .ok (.iload 5, 2) := by decide +kernel
theorem d_T_shift_106 : decode m_T_shift.2.1 106 = .ok (.invokevirtual 88, 3) := by decide +kernel
theorem d_T_shift_109 : decode m_T_shift.2.1 109 = .ok (.ifCond .ne (6), 3) := by decide +kernel
theorem d_T_shift_115 : decode m_T_shift.2.1 115 = .ok (.aload 6, 2) := by decide +kernel
theorem d_T_shift_117 : decode m_T_shift.2.1 117 = .ok (.getfield 330, 3) := by decide +kernel
theorem d_T_shift_120 : decode m_T_shift.2.1 120 = .ok (.iload_n 2, 1) := by decide +kernel
theorem d_T_shift_121 : decode m_T_shift.2.1 121 = .ok (.aload 7, 2) := by decide +kernel
theorem d_T_shift_123 : decode m_T_shift.2.1 123 = .ok (.getfield 330, 3) := by decide +kernel
theorem d_T_shift_126 : decode m_T_shift.2.1 126 = .ok (.iload 4, 2) := by decide +kernel
theorem d_T_shift_128 : decode m_T_shift.2.1 128 = .ok (.iload 5, 2) := by decide +kernel
theorem d_T_shift_130 : decode m_T_shift.2.1 130 = .ok (.invokestatic 341, 3) := by decide +kernel
theorem d_T_shift_133 : decode m_T_shift.2.1 133 = .ok (.iload 5, 2) := by decide +kernel
theorem d_T_shift_135 : decode m_T_shift.2.1 135 = .ok (.ireturn, 1) := by decide +kernel
theorem d_T_shift_86 : decode m_T_shift.2.1 86 = .ok (.bipush (-12), 2) := by decide +kernel
theorem d_T_shift_88 : decode m_T_shift.2.1 88 = .ok (.ireturn, 1) := by decide +kernel
theorem d_Wo_isUnder_0 : decode m_Wo_isUnder.2.1 0 = .ok (.iload_n 1, 1) := by decide +kernel
theorem d_Wo_isUnder_1 : decode m_Wo_isUnder.2.1 1 = .ok (.aload_n 0, 1) := by decide +kernel
theorem d_Wo_isUnder_2 : decode m_Wo_isUnder.2.1 2 = .ok (.getfield 18, 3) := by decide +kernel
theorem d_Wo_isUnder_5 : decode m_Wo_isUnder.2.1 5 = .ok (.invokestatic 22, 3) := by decide +kernel
theorem d_Wo_isUnder_8 : decode m_Wo_isUnder.2.1 8 = .ok (.ifCond .eq (12), 3) := by decide +kernel
theorem d_Wo_isUnder_20 : decode m_Wo_isUnder.2.1 20 = .ok (.iconst (-1), 1) := by decide +kernel
theorem d_Wo_isUnder_21 : decode m_Wo_isUnder.2.1 21 = .ok (.istore_n 3, 1) := by decide +kernel
theorem d_Wo_isUnder_22 : decode m_Wo_isUnder.2.1 22 = .ok (.iconst 0, 1) := by decide +kernel
theorem d_Wo_isUnder_23 : decode m_Wo_isUnder.2.1 23 = .ok (.istore 4, 2) := by decide +kernel
theorem d_Wo_isUnder_25 : decode m_Wo_isUnder.2.1 25 = .ok (.iload 4, 2) := by decide +kernel
theorem d_Wo_isUnder_27 : decode m_Wo_isUnder.2.1 27 = .ok (.bipush (8), 2) := by decide +kernel
theorem d_Wo_isUnder_29 : decode m_Wo_isUnder.2.1 29 = .ok (.if_icmp .ge (29), 3) := by decide +kernel
theorem d_Wo_isUnder_58 : decode m_Wo_isUnder.2.1 58 = .ok (.iload_n 3, 1) := by decide +kernel
theorem d_Wo_isUnder_59 : decode m_Wo_isUnder.2.1 59 = .ok (.iload_n 2, 1) := by decide +kernel
theorem d_Wo_isUnder_60 : decode m_Wo_isUnder.2.1 60 = .ok (.if_icmp .ne (7), 3) := by decide +kernel
theorem d_Wo_isUnder_63 : decode m_Wo_isUnder.2.1 63 = .ok (.iconst 1, 1) := by decide +kernel
theorem d_Wo_isUnder_64 : decode m_Wo_isUnder.2.1 64 = .ok (.goto (4), 3) := by decide +kernel
theorem d_Wo_isUnder_68 : decode m_Wo_isUnder.2.1 68 = .ok (.ireturn, 1) := by decide +kernel
theorem d_Wo_isUnder_67 : decode m_Wo_isUnder.2.1 67 = .ok (.iconst 0, 1) := by decide +kernel
theorem d_Wo_isUnder_32 : decode m_Wo_isUnder.2.1 32 = .ok (.iload_n 3, 1) := by decide +kernel
theorem d_Wo_isUnder_33 : decode m_Wo_isUnder.2.1 33 = .ok (.iload_n 2, 1) := by decide +kernel
theorem d_Wo_isUnder_34 : decode m_Wo_isUnder.2.1 34 = .ok (.if_icmp .eq (24), 3) := by decide +kernel
theorem d_Wo_isUnder_37 : decode m_Wo_isUnder.2.1 37 = .ok (.iload_n 3, 1) := by decide +kernel
theorem d_Wo_isUnder_38 : decode m_Wo_isUnder.2.1 38 = .ok (.bipush (8), 2) := by decide +kernel
theorem d_Wo_isUnder_40 : decode m_Wo_isUnder.2.1 40 = .ok (.invokestatic 22, 3) := by decide +kernel
theorem d_Wo_isUnder_43 : decode m_Wo_isUnder.2.1 43 = .ok (.ifCond .eq (15), 3) := by decide +kernel
theorem d_Wo_isUnder_46 : decode m_Wo_isUnder.2.1 46 = .ok (.getstatic 26, 3) := by decide +kernel
theorem d_Wo_isUnder_49 : decode m_Wo_isUnder.2.1 49 = .ok (.iload_n 3, 1) := by decide +kernel
theorem d_Wo_isUnder_50 : decode m_Wo_isUnder.2.1 50 = .ok (.iaload, 1) := by decide +kernel
theorem d_Wo_isUnder_51 : decode m_Wo_isUnder.2.1 51 = .ok (.istore_n 3, 1) := by decide +kernel
theorem d_Wo_isUnder_52 : decode m_Wo_isUnder.2.1 52 = .ok (.iinc 4 (1), 3) := by decide +kernel
theorem d_Wo_isUnder_55 : decode m_Wo_isUnder.2.1 55 = .ok (.goto (-30), 3) := by decide +kernel
theorem d_Wo_isUnder_11 : decode m_Wo_isUnder.2.1 11 = .ok (.aload_n 0, 1) := by decide +kernel
theorem d_Wo_isUnder_12 : decode m_Wo_isUnder.2.1 12 = .ok (.getfield 11, 3) := by decide +kernel
theorem d_Wo_isUnder_15 : decode m_Wo_isUnder.2.1 15 = .ok (.iload_n 1, 1) := by decide +kernel
theorem d_Wo_isUnder_16 : decode m_Wo_isUnder.2.1 16 = .ok (.iaload, 1) := by decide +kernel
theorem d_Wo_isUnder_17 : decode m_Wo_isUnder.2.1 17 = .ok (.goto (4), 3) := by decide +kernel
theorem d_T_taken_0 : decode m_T_taken.2.1 0 = .ok (.iload_n 1, 1) := by decide +kernel
theorem d_T_taken_1 : decode m_T_taken.2.1 1 = .ok (.bipush (6), 2) := by decide +kernel
theorem d_T_taken_3 : decode m_T_taken.2.1 3 = .ok (.invokestatic 72, 3) := by decide +kernel
theorem d_T_taken_6 : decode m_T_taken.2.1 6 = .ok (.ifCond .eq (12), 3) := by decide +kernel
theorem d_T_taken_18 : decode m_T_taken.2.1 18 = .ok (.iconst (-1), 1) := by decide +kernel
theorem d_T_taken_19 : decode m_T_taken.2.1 19 = .ok (.ireturn, 1) := by decide +kernel
theorem d_T_taken_9 : decode m_T_taken.2.1 9 = .ok (.iload_n 2, 1) := by decide +kernel
theorem d_T_taken_10 : decode m_T_taken.2.1 10 = .ok (.bipush (8), 2) := by decide +kernel
theorem d_T_taken_12 : decode m_T_taken.2.1 12 = .ok (.invokestatic 72, 3) := by decide +kernel
theorem d_T_taken_15 : decode m_T_taken.2.1 15 = .ok (.ifCond .ne (5), 3) := by decide +kernel
theorem d_T_taken_20 : decode m_T_taken.2.1 20 = .ok (.aload_n 0, 1) := by decide +kernel
theorem d_T_taken_21 : decode m_T_taken.2.1 21 = .ok (.getfield 67, 3) := by decide +kernel
theorem d_T_taken_24 : decode m_T_taken.2.1 24 = .ok (.iload_n 1, 1) := by decide +kernel
theorem d_T_taken_25 : decode m_T_taken.2.1 25 = .ok (.aaload, 1) := by decide +kernel
theorem d_T_taken_26 : decode m_T_taken.2.1 26 = .ok (.astore_n 3, 1) := by decide +kernel
theorem d_T_taken_27 : decode m_T_taken.2.1 27 = .ok (.aload_n 3, 1) := by decide +kernel
theorem d_T_taken_28 : decode m_T_taken.2.1 28 = .ok (.getfield 80, 3) := by decide +kernel
theorem d_T_taken_31 : decode m_T_taken.2.1 31 = .ok (.iconst 1, 1) := by decide +kernel
theorem d_T_taken_32 : decode m_T_taken.2.1 32 = .ok (.if_icmp .ne (18), 3) := by decide +kernel
theorem d_T_taken_35 : decode m_T_taken.2.1 35 = .ok (.aload_n 0, 1) := by decide +kernel
theorem d_T_taken_36 : decode m_T_taken.2.1 36 = .ok (.getfield 61, 3) := by decide +kernel
theorem d_T_taken_39 : decode m_T_taken.2.1 39 = .ok (.aload_n 3, 1) := by decide +kernel
theorem d_T_taken_40 : decode m_T_taken.2.1 40 = .ok (.getfield 347, 3) := by decide +kernel
theorem d_T_taken_43 : decode m_T_taken.2.1 43 = .ok (.iload_n 2, 1) := by decide +kernel
theorem d_T_taken_44 : decode m_T_taken.2.1 44 = .ok (.invokevirtual 350, 3) := by decide +kernel
theorem d_T_taken_47 : decode m_T_taken.2.1 47 = .ok (.ifCond .ne (8), 3) := by decide +kernel
theorem d_T_taken_50 : decode m_T_taken.2.1 50 = .ok (.aload_n 3, 1) := by decide +kernel
theorem d_T_taken_51 : decode m_T_taken.2.1 51 = .ok (.invokevirtual 146, 3) := by decide +kernel
theorem d_T_taken_54 : decode m_T_taken.2.1 54 = .ok (.ireturn, 1) := by decide +kernel
theorem d_T_taken_55 : decode m_T_taken.2.1 55 = .ok (.aload_n 0, 1) := by decide +kernel
theorem d_T_taken_56 : decode m_T_taken.2.1 56 = .ok (.getfield 61, 3) := by decide +kernel
theorem d_T_taken_59 : decode m_T_taken.2.1 59 = .ok (.getfield 353, 3) := by decide +kernel
theorem d_T_taken_62 : decode m_T_taken.2.1 62 = .ok (.aload_n 3, 1) := by decide +kernel
theorem d_T_taken_63 : decode m_T_taken.2.1 63 = .ok (.getfield 347, 3) := by decide +kernel
theorem d_T_taken_66 : decode m_T_taken.2.1 66 = .ok (.iaload, 1) := by decide +kernel
theorem d_T_taken_67 : decode m_T_taken.2.1 67 = .ok (.ireturn, 1) := by decide +kernel
theorem d_T_count_0 : decode m_T_count.2.1 0 = .ok (.iload_n 1, 1) := by decide +kernel
theorem d_T_count_1 : decode m_T_count.2.1 1 = .ok (.tableswitch (90) (0) (5) #[39, 47, 58, 66, 74, 82], 39) := by decide +kernel
theorem d_T_count_40 : decode m_T_count.2.1 40 = .ok (.aload_n 0, 1) := by decide +kernel
theorem d_T_count_41 : decode m_T_count.2.1 41 = .ok (.getfield 10, 3) := by decide +kernel
theorem d_T_count_44 : decode m_T_count.2.1 44 = .ok (.getfield 126, 3) := by decide +kernel
theorem d_T_count_47 : decode m_T_count.2.1 47 = .ok (.ireturn, 1) := by decide +kernel
theorem d_T_count_48 : decode m_T_count.2.1 48 = .ok (.aload_n 0, 1) := by decide +kernel
theorem d_T_count_49 : decode m_T_count.2.1 49 = .ok (.getfield 47, 3) := by decide +kernel
theorem d_T_count_52 : decode m_T_count.2.1 52 = .ok (.getfield 256, 3) := by decide +kernel
theorem d_T_count_55 : decode m_T_count.2.1 55 = .ok (.invokestatic 155, 3) := by decide +kernel
theorem d_T_count_58 : decode m_T_count.2.1 58 = .ok (.ireturn, 1) := by decide +kernel
theorem d_T_count_59 : decode m_T_count.2.1 59 = .ok (.aload_n 0, 1) := by decide +kernel
theorem d_T_count_60 : decode m_T_count.2.1 60 = .ok (.getfield 33, 3) := by decide +kernel
theorem d_T_count_63 : decode m_T_count.2.1 63 = .ok (.getfield 356, 3) := by decide +kernel
theorem d_T_count_66 : decode m_T_count.2.1 66 = .ok (.ireturn, 1) := by decide +kernel
theorem d_T_count_67 : decode m_T_count.2.1 67 = .ok (.aload_n 0, 1) := by decide +kernel
theorem d_T_count_68 : decode m_T_count.2.1 68 = .ok (.getfield 40, 3) := by decide +kernel
theorem d_T_count_71 : decode m_T_count.2.1 71 = .ok (.getfield 298, 3) := by decide +kernel
theorem d_T_count_74 : decode m_T_count.2.1 74 = .ok (.ireturn, 1) := by decide +kernel
theorem d_T_count_75 : decode m_T_count.2.1 75 = .ok (.aload_n 0, 1) := by decide +kernel
theorem d_T_count_76 : decode m_T_count.2.1 76 = .ok (.getfield 61, 3) := by decide +kernel
theorem d_T_count_79 : decode m_T_count.2.1 79 = .ok (.getfield 322, 3) := by decide +kernel
theorem d_T_count_82 : decode m_T_count.2.1 82 = .ok (.ireturn, 1) := by decide +kernel
theorem d_T_count_83 : decode m_T_count.2.1 83 = .ok (.aload_n 0, 1) := by decide +kernel
theorem d_T_count_84 : decode m_T_count.2.1 84 = .ok (.getfield 61, 3) := by decide +kernel
theorem d_T_count_87 : decode m_T_count.2.1 87 = .ok (.getfield 316, 3) := by decide +kernel
theorem d_T_count_90 : decode m_T_count.2.1 90 = .ok (.ireturn, 1) := by decide +kernel
theorem d_T_count_91 : decode m_T_count.2.1 91 = .ok (.iconst (-1), 1) := by decide +kernel
theorem d_T_count_92 : decode m_T_count.2.1 92 = .ok (.ireturn, 1) := by decide +kernel
theorem d_M_within_0 : decode m_M_within.2.1 0 = .ok (.lload_n 0, 1) := by decide +kernel
theorem d_M_within_1 : decode m_M_within.2.1 1 = .ok (.lload_n 2, 1) := by decide +kernel
theorem d_M_within_2 : decode m_M_within.2.1 2 = .ok (.lcmp, 1) := by decide +kernel
theorem d_M_within_3 : decode m_M_within.2.1 3 = .ok (.ifCond .lt (14), 3) := by decide +kernel
theorem d_M_within_17 : decode m_M_within.2.1 17 = .ok (.iconst 0, 1) := by decide +kernel
theorem d_M_within_18 : decode m_M_within.2.1 18 = .ok (.ireturn, 1) := by decide +kernel
theorem d_M_within_6 : decode m_M_within.2.1 6 = .ok (.lload_n 0, 1) := by decide +kernel
theorem d_M_within_7 : decode m_M_within.2.1 7 = .ok (.lload 4, 2) := by decide +kernel
theorem d_M_within_9 : decode m_M_within.2.1 9 = .ok (.lcmp, 1) := by decide +kernel
theorem d_M_within_10 : decode m_M_within.2.1 10 = .ok (.ifCond .gt (7), 3) := by decide +kernel
theorem d_M_within_13 : decode m_M_within.2.1 13 = .ok (.iconst 1, 1) := by decide +kernel
theorem d_M_within_14 : decode m_M_within.2.1 14 = .ok (.goto (4), 3) := by decide +kernel
theorem d_M_isIn_0 : decode m_M_isIn.2.1 0 = .ok (.iload_n 0, 1) := by decide +kernel
theorem d_M_isIn_1 : decode m_M_isIn.2.1 1 = .ok (.iload_n 1, 1) := by decide +kernel
theorem d_M_isIn_2 : decode m_M_isIn.2.1 2 = .ok (.ishr, 1) := by decide +kernel
theorem d_M_isIn_3 : decode m_M_isIn.2.1 3 = .ok (.iconst 1, 1) := by decide +kernel
theorem d_M_isIn_4 : decode m_M_isIn.2.1 4 = .ok (.iand, 1) := by decide +kernel
theorem d_M_isIn_5 : decode m_M_isIn.2.1 5 = .ok (.iconst 1, 1) := by decide +kernel
theorem d_M_isIn_6 : decode m_M_isIn.2.1 6 = .ok (.if_icmp .ne (7), 3) := by decide +kernel
theorem d_M_isIn_9 : decode m_M_isIn.2.1 9 = .ok (.iconst 1, 1) := by decide +kernel
theorem d_M_isIn_10 : decode m_M_isIn.2.1 10 = .ok (.goto (4), 3) := by decide +kernel
theorem d_M_isIn_14 : decode m_M_isIn.2.1 14 = .ok (.ireturn, 1) := by decide +kernel
theorem d_M_isIn_13 : decode m_M_isIn.2.1 13 = .ok (.iconst 0, 1) := by decide +kernel
theorem d_M_bitsOf_0 : decode m_M_bitsOf.2.1 0 = .ok (.iconst 0, 1) := by decide +kernel
theorem d_M_bitsOf_1 : decode m_M_bitsOf.2.1 1 = .ok (.istore_n 1, 1) := by decide +kernel
theorem d_M_bitsOf_2 : decode m_M_bitsOf.2.1 2 = .ok (.iconst 0, 1) := by decide +kernel
theorem d_M_bitsOf_3 : decode m_M_bitsOf.2.1 3 = .ok (.istore_n 2, 1) := by decide +kernel
theorem d_M_bitsOf_4 : decode m_M_bitsOf.2.1 4 = .ok (.iload_n 2, 1) := by decide +kernel
theorem d_M_bitsOf_5 : decode m_M_bitsOf.2.1 5 = .ok (.bipush (10), 2) := by decide +kernel
theorem d_M_bitsOf_7 : decode m_M_bitsOf.2.1 7 = .ok (.if_icmp .ge (17), 3) := by decide +kernel
theorem d_M_bitsOf_24 : decode m_M_bitsOf.2.1 24 = .ok (.iload_n 1, 1) := by decide +kernel
theorem d_M_bitsOf_25 : decode m_M_bitsOf.2.1 25 = .ok (.ireturn, 1) := by decide +kernel
theorem d_M_bitsOf_10 : decode m_M_bitsOf.2.1 10 = .ok (.iload_n 1, 1) := by decide +kernel
theorem d_M_bitsOf_11 : decode m_M_bitsOf.2.1 11 = .ok (.iload_n 0, 1) := by decide +kernel
theorem d_M_bitsOf_12 : decode m_M_bitsOf.2.1 12 = .ok (.iload_n 2, 1) := by decide +kernel
theorem d_M_bitsOf_13 : decode m_M_bitsOf.2.1 13 = .ok (.ishr, 1) := by decide +kernel
theorem d_M_bitsOf_14 : decode m_M_bitsOf.2.1 14 = .ok (.iconst 1, 1) := by decide +kernel
theorem d_M_bitsOf_15 : decode m_M_bitsOf.2.1 15 = .ok (.iand, 1) := by decide +kernel
theorem d_M_bitsOf_16 : decode m_M_bitsOf.2.1 16 = .ok (.iadd, 1) := by decide +kernel
theorem d_M_bitsOf_17 : decode m_M_bitsOf.2.1 17 = .ok (.istore_n 1, 1) := by decide +kernel
theorem d_M_bitsOf_18 : decode m_M_bitsOf.2.1 18 = .ok (.iinc 2 (1), 3) := by decide +kernel
theorem d_M_bitsOf_21 : decode m_M_bitsOf.2.1 21 = .ok (.goto (-17), 3) := by decide +kernel
theorem d_M_becomes_0 : decode m_M_becomes.2.1 0 = .ok (.aload_n 0, 1) := by decide +kernel
theorem d_M_becomes_1 : decode m_M_becomes.2.1 1 = .ok (.getfield 9, 3) := by decide +kernel
theorem d_M_becomes_4 : decode m_M_becomes.2.1 4 = .ok (.iload_n 1, 1) := by decide +kernel
theorem d_M_becomes_5 : decode m_M_becomes.2.1 5 = .ok (.iaload, 1) := by decide +kernel
theorem d_M_becomes_6 : decode m_M_becomes.2.1 6 = .ok (.istore_n 3, 1) := by decide +kernel
theorem d_M_becomes_7 : decode m_M_becomes.2.1 7 = .ok (.iload_n 3, 1) := by decide +kernel
theorem d_M_becomes_8 : decode m_M_becomes.2.1 8 = .ok (.iload_n 2, 1) := by decide +kernel
theorem d_M_becomes_9 : decode m_M_becomes.2.1 9 = .ok (.if_icmp .ne (5), 3) := by decide +kernel
theorem d_M_becomes_12 : decode m_M_becomes.2.1 12 = .ok (.iload_n 3, 1) := by decide +kernel
theorem d_M_becomes_13 : decode m_M_becomes.2.1 13 = .ok (.ireturn, 1) := by decide +kernel
theorem d_M_becomes_14 : decode m_M_becomes.2.1 14 = .ok (.aload_n 0, 1) := by decide +kernel
theorem d_M_becomes_15 : decode m_M_becomes.2.1 15 = .ok (.getfield 75, 3) := by decide +kernel
theorem d_M_becomes_18 : decode m_M_becomes.2.1 18 = .ok (.bipush (40), 2) := by decide +kernel
theorem d_M_becomes_20 : decode m_M_becomes.2.1 20 = .ok (.if_icmp .ne (77), 3) := by decide +kernel
theorem d_M_becomes_23 : decode m_M_becomes.2.1 23 = .ok (.iconst 1, 1) := by decide +kernel
theorem d_M_becomes_24 : decode m_M_becomes.2.1 24 = .ok (.istore 4, 2) := by decide +kernel
theorem d_M_becomes_26 : decode m_M_becomes.2.1 26 = .ok (.iload 4, 2) := by decide +kernel
theorem d_M_becomes_28 : decode m_M_becomes.2.1 28 = .ok (.bipush (40), 2) := by decide +kernel
theorem d_M_becomes_30 : decode m_M_becomes.2.1 30 = .ok (.if_icmp .ge (57), 3) := by decide +kernel
theorem d_M_becomes_87 : decode m_M_becomes.2.1 87 = .ok (.aload_n 0, 1) := by decide +kernel
theorem d_M_becomes_88 : decode m_M_becomes.2.1 88 = .ok (.dup, 1) := by decide +kernel
theorem d_M_becomes_89 : decode m_M_becomes.2.1 89 = .ok (.getfield 75, 3) := by decide +kernel
theorem d_M_becomes_92 : decode m_M_becomes.2.1 92 = .ok (.iconst 1, 1) := by decide +kernel
theorem d_M_becomes_93 : decode m_M_becomes.2.1 93 = .ok (.isub, 1) := by decide +kernel
theorem d_M_becomes_94 : decode m_M_becomes.2.1 94 = .ok (.putfield 75, 3) := by decide +kernel
theorem d_M_becomes_97 : decode m_M_becomes.2.1 97 = .ok (.aload_n 0, 1) := by decide +kernel
theorem d_M_becomes_98 : decode m_M_becomes.2.1 98 = .ok (.getfield 13, 3) := by decide +kernel
theorem d_M_becomes_101 : decode m_M_becomes.2.1 101 = .ok (.aload_n 0, 1) := by decide +kernel
theorem d_M_becomes_102 : decode m_M_becomes.2.1 102 = .ok (.getfield 75, 3) := by decide +kernel
theorem d_M_becomes_105 : decode m_M_becomes.2.1 105 = .ok (.iload_n 1, 1) := by decide +kernel
theorem d_M_becomes_106 : decode m_M_becomes.2.1 106 = .ok (.iastore, 1) := by decide +kernel
theorem d_M_becomes_107 : decode m_M_becomes.2.1 107 = .ok (.aload_n 0, 1) := by decide +kernel
theorem d_M_becomes_108 : decode m_M_becomes.2.1 108 = .ok (.getfield 16, 3) := by decide +kernel
theorem d_M_becomes_111 : decode m_M_becomes.2.1 111 = .ok (.aload_n 0, 1) := by decide +kernel
theorem d_M_becomes_112 : decode m_M_becomes.2.1 112 = .ok (.getfield 75, 3) := by decide +kernel
theorem d_M_becomes_115 : decode m_M_becomes.2.1 115 = .ok (.iload_n 3, 1) := by decide +kernel
theorem d_M_becomes_116 : decode m_M_becomes.2.1 116 = .ok (.iastore, 1) := by decide +kernel
theorem d_M_becomes_117 : decode m_M_becomes.2.1 117 = .ok (.aload_n 0, 1) := by decide +kernel
theorem d_M_becomes_118 : decode m_M_becomes.2.1 118 = .ok (.getfield 19, 3) := by decide +kernel
theorem d_M_becomes_121 : decode m_M_becomes.2.1 121 = .ok (.aload_n 0, 1) := by decide +kernel
theorem d_M_becomes_122 : decode m_M_becomes.2.1 122 = .ok (.getfield 75, 3) := by decide +kernel
theorem d_M_becomes_125 : decode m_M_becomes.2.1 125 = .ok (.iload_n 2, 1) := by decide +kernel
theorem d_M_becomes_126 : decode m_M_becomes.2.1 126 = .ok (.iastore, 1) := by decide +kernel
theorem d_M_becomes_127 : decode m_M_becomes.2.1 127 = .ok (.aload_n 0, 1) := by decide +kernel
theorem d_M_becomes_128 : decode m_M_becomes.2.1 128 = .ok (.dup, 1) := by decide +kernel
theorem d_M_becomes_129 : decode m_M_becomes.2.1 129 = .ok (.getfield 75, 3) := by decide +kernel
theorem d_M_becomes_132 : decode m_M_becomes.2.1 132 = .ok (.iconst 1, 1) := by decide +kernel
theorem d_M_becomes_133 : decode m_M_becomes.2.1 133 = .ok (.iadd, 1) := by decide +kernel
theorem d_M_becomes_134 : decode m_M_becomes.2.1 134 = .ok (.putfield 75, 3) := by decide +kernel
theorem d_M_becomes_137 : decode m_M_becomes.2.1 137 = .ok (.aload_n 0, 1) := by decide +kernel
theorem d_M_becomes_138 : decode m_M_becomes.2.1 138 = .ok (.aload_n 0, 1) := by decide +kernel
theorem d_M_becomes_139 : decode m_M_becomes.2.1 139 = .ok (.getfield 75, 3) := by decide +kernel
theorem d_M_becomes_142 : decode m_M_becomes.2.1 142 = .ok (.putfield 78, 3) := by decide +kernel
theorem d_M_becomes_145 : decode m_M_becomes.2.1 145 = .ok (.aload_n 0, 1) := by decide +kernel
theorem d_M_becomes_146 : decode m_M_becomes.2.1 146 = .ok (.getfield 9, 3) := by decide +kernel
theorem d_M_becomes_149 : decode m_M_becomes.2.1 149 = .ok (.iload_n 1, 1) := by decide +kernel
theorem d_M_becomes_150 : decode m_M_becomes.2.1 150 = .ok (.iload_n 2, 1) := by decide +kernel
theorem d_M_becomes_151 : decode m_M_becomes.2.1 151 = .ok (.iastore, 1) := by decide +kernel
theorem d_M_becomes_152 : decode m_M_becomes.2.1 152 = .ok (.iload_n 3, 1) := by decide +kernel
theorem d_M_becomes_153 : decode m_M_becomes.2.1 153 = .ok (.ireturn, 1) := by decide +kernel
theorem d_M_becomes_33 : decode m_M_becomes.2.1 33 = .ok (.aload_n 0, 1) := by decide +kernel
theorem d_M_becomes_34 : decode m_M_becomes.2.1 34 = .ok (.getfield 13, 3) := by decide +kernel
theorem d_M_becomes_37 : decode m_M_becomes.2.1 37 = .ok (.iload 4, 2) := by decide +kernel
theorem d_M_becomes_39 : decode m_M_becomes.2.1 39 = .ok (.iconst 1, 1) := by decide +kernel
theorem d_M_becomes_40 : decode m_M_becomes.2.1 40 = .ok (.isub, 1) := by decide +kernel
theorem d_M_becomes_41 : decode m_M_becomes.2.1 41 = .ok (.aload_n 0, 1) := by decide +kernel
theorem d_M_becomes_42 : decode m_M_becomes.2.1 42 = .ok (.getfield 13, 3) := by decide +kernel
theorem d_M_becomes_45 : decode m_M_becomes.2.1 45 = .ok (.iload 4, 2) := by decide +kernel
theorem d_M_becomes_47 : decode m_M_becomes.2.1 47 = .ok (.iaload, 1) := by decide +kernel
theorem d_M_becomes_48 : decode m_M_becomes.2.1 48 = .ok (.iastore, 1) := by decide +kernel
theorem d_M_becomes_49 : decode m_M_becomes.2.1 49 = .ok (.aload_n 0, 1) := by decide +kernel
theorem d_M_becomes_50 : decode m_M_becomes.2.1 50 = .ok (.getfield 16, 3) := by decide +kernel
theorem d_M_becomes_53 : decode m_M_becomes.2.1 53 = .ok (.iload 4, 2) := by decide +kernel
theorem d_M_becomes_55 : decode m_M_becomes.2.1 55 = .ok (.iconst 1, 1) := by decide +kernel
theorem d_M_becomes_56 : decode m_M_becomes.2.1 56 = .ok (.isub, 1) := by decide +kernel
theorem d_M_becomes_57 : decode m_M_becomes.2.1 57 = .ok (.aload_n 0, 1) := by decide +kernel
theorem d_M_becomes_58 : decode m_M_becomes.2.1 58 = .ok (.getfield 16, 3) := by decide +kernel
theorem d_M_becomes_61 : decode m_M_becomes.2.1 61 = .ok (.iload 4, 2) := by decide +kernel
theorem d_M_becomes_63 : decode m_M_becomes.2.1 63 = .ok (.iaload, 1) := by decide +kernel
theorem d_M_becomes_64 : decode m_M_becomes.2.1 64 = .ok (.iastore, 1) := by decide +kernel
theorem d_M_becomes_65 : decode m_M_becomes.2.1 65 = .ok (.aload_n 0, 1) := by decide +kernel
theorem d_M_becomes_66 : decode m_M_becomes.2.1 66 = .ok (.getfield 19, 3) := by decide +kernel
theorem d_M_becomes_69 : decode m_M_becomes.2.1 69 = .ok (.iload 4, 2) := by decide +kernel
theorem d_M_becomes_71 : decode m_M_becomes.2.1 71 = .ok (.iconst 1, 1) := by decide +kernel
theorem d_M_becomes_72 : decode m_M_becomes.2.1 72 = .ok (.isub, 1) := by decide +kernel
theorem d_M_becomes_73 : decode m_M_becomes.2.1 73 = .ok (.aload_n 0, 1) := by decide +kernel
theorem d_M_becomes_74 : decode m_M_becomes.2.1 74 = .ok (.getfield 19, 3) := by decide +kernel
theorem d_M_becomes_77 : decode m_M_becomes.2.1 77 = .ok (.iload 4, 2) := by decide +kernel
theorem d_M_becomes_79 : decode m_M_becomes.2.1 79 = .ok (.iaload, 1) := by decide +kernel
theorem d_M_becomes_80 : decode m_M_becomes.2.1 80 = .ok (.iastore, 1) := by decide +kernel
theorem d_M_becomes_81 : decode m_M_becomes.2.1 81 = .ok (.iinc 4 (1), 3) := by decide +kernel
theorem d_M_becomes_84 : decode m_M_becomes.2.1 84 = .ok (.goto (-58), 3) := by decide +kernel
theorem d_M_undo_0 : decode m_M_undo.2.1 0 = .ok (.aload_n 0, 1) := by decide +kernel
theorem d_M_undo_1 : decode m_M_undo.2.1 1 = .ok (.getfield 75, 3) := by decide +kernel
theorem d_M_undo_4 : decode m_M_undo.2.1 4 = .ok (.ifCond .ne (6), 3) := by decide +kernel
theorem d_M_undo_7 : decode m_M_undo.2.1 7 = .ok (.bipush (-5), 2) := by decide +kernel
theorem d_M_undo_9 : decode m_M_undo.2.1 9 = .ok (.ireturn, 1) := by decide +kernel
theorem d_M_undo_10 : decode m_M_undo.2.1 10 = .ok (.aload_n 0, 1) := by decide +kernel
theorem d_M_undo_11 : decode m_M_undo.2.1 11 = .ok (.dup, 1) := by decide +kernel
theorem d_M_undo_12 : decode m_M_undo.2.1 12 = .ok (.getfield 75, 3) := by decide +kernel
theorem d_M_undo_15 : decode m_M_undo.2.1 15 = .ok (.iconst 1, 1) := by decide +kernel
theorem d_M_undo_16 : decode m_M_undo.2.1 16 = .ok (.isub, 1) := by decide +kernel
theorem d_M_undo_17 : decode m_M_undo.2.1 17 = .ok (.putfield 75, 3) := by decide +kernel
theorem d_M_undo_20 : decode m_M_undo.2.1 20 = .ok (.aload_n 0, 1) := by decide +kernel
theorem d_M_undo_21 : decode m_M_undo.2.1 21 = .ok (.getfield 9, 3) := by decide +kernel
theorem d_M_undo_24 : decode m_M_undo.2.1 24 = .ok (.aload_n 0, 1) := by decide +kernel
theorem d_M_undo_25 : decode m_M_undo.2.1 25 = .ok (.getfield 13, 3) := by decide +kernel
theorem d_M_undo_28 : decode m_M_undo.2.1 28 = .ok (.aload_n 0, 1) := by decide +kernel
theorem d_M_undo_29 : decode m_M_undo.2.1 29 = .ok (.getfield 75, 3) := by decide +kernel
theorem d_M_undo_32 : decode m_M_undo.2.1 32 = .ok (.iaload, 1) := by decide +kernel
theorem d_M_undo_33 : decode m_M_undo.2.1 33 = .ok (.aload_n 0, 1) := by decide +kernel
theorem d_M_undo_34 : decode m_M_undo.2.1 34 = .ok (.getfield 16, 3) := by decide +kernel
theorem d_M_undo_37 : decode m_M_undo.2.1 37 = .ok (.aload_n 0, 1) := by decide +kernel
theorem d_M_undo_38 : decode m_M_undo.2.1 38 = .ok (.getfield 75, 3) := by decide +kernel
theorem d_M_undo_41 : decode m_M_undo.2.1 41 = .ok (.iaload, 1) := by decide +kernel
theorem d_M_undo_42 : decode m_M_undo.2.1 42 = .ok (.iastore, 1) := by decide +kernel
theorem d_M_undo_43 : decode m_M_undo.2.1 43 = .ok (.aload_n 0, 1) := by decide +kernel
theorem d_M_undo_44 : decode m_M_undo.2.1 44 = .ok (.getfield 75, 3) := by decide +kernel
theorem d_M_undo_47 : decode m_M_undo.2.1 47 = .ok (.ireturn, 1) := by decide +kernel
theorem d_M_redo_0 : decode m_M_redo.2.1 0 = .ok (.aload_n 0, 1) := by decide +kernel
theorem d_M_redo_1 : decode m_M_redo.2.1 1 = .ok (.getfield 75, 3) := by decide +kernel
theorem d_M_redo_4 : decode m_M_redo.2.1 4 = .ok (.aload_n 0, 1) := by decide +kernel
theorem d_M_redo_5 : decode m_M_redo.2.1 5 = .ok (.getfield 78, 3) := by decide +kernel
theorem d_M_redo_8 : decode m_M_redo.2.1 8 = .ok (.if_icmp .ne (6), 3) := by decide +kernel
theorem d_M_redo_11 : decode m_M_redo.2.1 11 = .ok (.bipush (-5), 2) := by decide +kernel
theorem d_M_redo_13 : decode m_M_redo.2.1 13 = .ok (.ireturn, 1) := by decide +kernel
theorem d_M_redo_14 : decode m_M_redo.2.1 14 = .ok (.aload_n 0, 1) := by decide +kernel
theorem d_M_redo_15 : decode m_M_redo.2.1 15 = .ok (.getfield 9, 3) := by decide +kernel
theorem d_M_redo_18 : decode m_M_redo.2.1 18 = .ok (.aload_n 0, 1) := by decide +kernel
theorem d_M_redo_19 : decode m_M_redo.2.1 19 = .ok (.getfield 13, 3) := by decide +kernel
theorem d_M_redo_22 : decode m_M_redo.2.1 22 = .ok (.aload_n 0, 1) := by decide +kernel
theorem d_M_redo_23 : decode m_M_redo.2.1 23 = .ok (.getfield 75, 3) := by decide +kernel
theorem d_M_redo_26 : decode m_M_redo.2.1 26 = .ok (.iaload, 1) := by decide +kernel
theorem d_M_redo_27 : decode m_M_redo.2.1 27 = .ok (.aload_n 0, 1) := by decide +kernel
theorem d_M_redo_28 : decode m_M_redo.2.1 28 = .ok (.getfield 19, 3) := by decide +kernel
theorem d_M_redo_31 : decode m_M_redo.2.1 31 = .ok (.aload_n 0, 1) := by decide +kernel
theorem d_M_redo_32 : decode m_M_redo.2.1 32 = .ok (.getfield 75, 3) := by decide +kernel
theorem d_M_redo_35 : decode m_M_redo.2.1 35 = .ok (.iaload, 1) := by decide +kernel
theorem d_M_redo_36 : decode m_M_redo.2.1 36 = .ok (.iastore, 1) := by decide +kernel
theorem d_M_redo_37 : decode m_M_redo.2.1 37 = .ok (.aload_n 0, 1) := by decide +kernel
theorem d_M_redo_38 : decode m_M_redo.2.1 38 = .ok (.dup, 1) := by decide +kernel
theorem d_M_redo_39 : decode m_M_redo.2.1 39 = .ok (.getfield 75, 3) := by decide +kernel
theorem d_M_redo_42 : decode m_M_redo.2.1 42 = .ok (.iconst 1, 1) := by decide +kernel
theorem d_M_redo_43 : decode m_M_redo.2.1 43 = .ok (.iadd, 1) := by decide +kernel
theorem d_M_redo_44 : decode m_M_redo.2.1 44 = .ok (.putfield 75, 3) := by decide +kernel
theorem d_M_redo_47 : decode m_M_redo.2.1 47 = .ok (.aload_n 0, 1) := by decide +kernel
theorem d_M_redo_48 : decode m_M_redo.2.1 48 = .ok (.getfield 78, 3) := by decide +kernel
theorem d_M_redo_51 : decode m_M_redo.2.1 51 = .ok (.aload_n 0, 1) := by decide +kernel
theorem d_M_redo_52 : decode m_M_redo.2.1 52 = .ok (.getfield 75, 3) := by decide +kernel
theorem d_M_redo_55 : decode m_M_redo.2.1 55 = .ok (.isub, 1) := by decide +kernel
theorem d_M_redo_56 : decode m_M_redo.2.1 56 = .ok (.ireturn, 1) := by decide +kernel
theorem d_M_isOne_0 : decode m_M_isOne.2.1 0 = .ok (.lload_n 1, 1) := by decide +kernel
theorem d_M_isOne_1 : decode m_M_isOne.2.1 1 = .ok (.lconst 0, 1) := by decide +kernel
theorem d_M_isOne_2 : decode m_M_isOne.2.1 2 = .ok (.aload_n 0, 1) := by decide +kernel
theorem d_M_isOne_3 : decode m_M_isOne.2.1 3 = .ok (.getfield 81, 3) := by decide +kernel
theorem d_M_isOne_6 : decode m_M_isOne.2.1 6 = .ok (.iconst 1, 1) := by decide +kernel
theorem d_M_isOne_7 : decode m_M_isOne.2.1 7 = .ok (.isub, 1) := by decide +kernel
theorem d_M_isOne_8 : decode m_M_isOne.2.1 8 = .ok (.i2l, 1) := by decide +kernel
theorem d_M_isOne_9 : decode m_M_isOne.2.1 9 = .ok (.invokestatic 84, 3) := by decide +kernel
theorem d_M_isOne_12 : decode m_M_isOne.2.1 12 = .ok (.ireturn, 1) := by decide +kernel
theorem d_M_isWeather_0 : decode m_M_isWeather.2.1 0 = .ok (.lload_n 0, 1) := by decide +kernel
theorem d_M_isWeather_1 : decode m_M_isWeather.2.1 1 = .ok (.lconst 0, 1) := by decide +kernel
theorem d_M_isWeather_2 : decode m_M_isWeather.2.1 2 = .ok (.ldc2_w 88, 3) := by decide +kernel
theorem d_M_isWeather_5 : decode m_M_isWeather.2.1 5 = .ok (.invokestatic 84, 3) := by decide +kernel
theorem d_M_isWeather_8 : decode m_M_isWeather.2.1 8 = .ok (.ireturn, 1) := by decide +kernel
theorem d_M_mayCome_0 : decode m_M_mayCome.2.1 0 = .ok (.lload_n 0, 1) := by decide +kernel
theorem d_M_mayCome_1 : decode m_M_mayCome.2.1 1 = .ok (.lconst 0, 1) := by decide +kernel
theorem d_M_mayCome_2 : decode m_M_mayCome.2.1 2 = .ok (.ldc2_w 90, 3) := by decide +kernel
theorem d_M_mayCome_5 : decode m_M_mayCome.2.1 5 = .ok (.invokestatic 84, 3) := by decide +kernel
theorem d_M_mayCome_8 : decode m_M_mayCome.2.1 8 = .ok (.ifCond .eq (30), 3) := by decide +kernel
theorem d_M_mayCome_38 : decode m_M_mayCome.2.1 38 = .ok (.iconst 0, 1) := by decide +kernel
theorem d_M_mayCome_39 : decode m_M_mayCome.2.1 39 = .ok (.ireturn, 1) := by decide +kernel
theorem d_M_mayCome_11 : decode m_M_mayCome.2.1 11 = .ok (.lload_n 2, 1) := by decide +kernel
theorem d_M_mayCome_12 : decode m_M_mayCome.2.1 12 = .ok (.lconst 0, 1) := by decide +kernel
theorem d_M_mayCome_13 : decode m_M_mayCome.2.1 13 = .ok (.ldc2_w 92, 3) := by decide +kernel
theorem d_M_mayCome_16 : decode m_M_mayCome.2.1 16 = .ok (.invokestatic 84, 3) := by decide +kernel
theorem d_M_mayCome_19 : decode m_M_mayCome.2.1 19 = .ok (.ifCond .eq (19), 3) := by decide +kernel
theorem d_M_mayCome_22 : decode m_M_mayCome.2.1 22 = .ok (.lload 4, 2) := by decide +kernel
theorem d_M_mayCome_24 : decode m_M_mayCome.2.1 24 = .ok (.lconst 0, 1) := by decide +kernel
theorem d_M_mayCome_25 : decode m_M_mayCome.2.1 25 = .ok (.ldc2_w 94, 3) := by decide +kernel
theorem d_M_mayCome_28 : decode m_M_mayCome.2.1 28 = .ok (.invokestatic 84, 3) := by decide +kernel
theorem d_M_mayCome_31 : decode m_M_mayCome.2.1 31 = .ok (.ifCond .eq (7), 3) := by decide +kernel
theorem d_M_mayCome_34 : decode m_M_mayCome.2.1 34 = .ok (.iconst 1, 1) := by decide +kernel
theorem d_M_mayCome_35 : decode m_M_mayCome.2.1 35 = .ok (.goto (4), 3) := by decide +kernel
theorem d_M_adds_0 : decode m_M_adds.2.1 0 = .ok (.aload_n 0, 1) := by decide +kernel
theorem d_M_adds_1 : decode m_M_adds.2.1 1 = .ok (.getfield 9, 3) := by decide +kernel
theorem d_M_adds_4 : decode m_M_adds.2.1 4 = .ok (.aload_n 0, 1) := by decide +kernel
theorem d_M_adds_5 : decode m_M_adds.2.1 5 = .ok (.getfield 81, 3) := by decide +kernel
theorem d_M_adds_8 : decode m_M_adds.2.1 8 = .ok (.iload_n 1, 1) := by decide +kernel
theorem d_M_adds_9 : decode m_M_adds.2.1 9 = .ok (.iastore, 1) := by decide +kernel
theorem d_M_adds_10 : decode m_M_adds.2.1 10 = .ok (.aload_n 0, 1) := by decide +kernel
theorem d_M_adds_11 : decode m_M_adds.2.1 11 = .ok (.getfield 9, 3) := by decide +kernel
theorem d_M_adds_14 : decode m_M_adds.2.1 14 = .ok (.bipush (10), 2) := by decide +kernel
theorem d_M_adds_16 : decode m_M_adds.2.1 16 = .ok (.aload_n 0, 1) := by decide +kernel
theorem d_M_adds_17 : decode m_M_adds.2.1 17 = .ok (.getfield 81, 3) := by decide +kernel
theorem d_M_adds_20 : decode m_M_adds.2.1 20 = .ok (.iadd, 1) := by decide +kernel
theorem d_M_adds_21 : decode m_M_adds.2.1 21 = .ok (.iload_n 2, 1) := by decide +kernel
theorem d_M_adds_22 : decode m_M_adds.2.1 22 = .ok (.iastore, 1) := by decide +kernel
theorem d_M_adds_23 : decode m_M_adds.2.1 23 = .ok (.aload_n 0, 1) := by decide +kernel
theorem d_M_adds_24 : decode m_M_adds.2.1 24 = .ok (.getfield 9, 3) := by decide +kernel
theorem d_M_adds_27 : decode m_M_adds.2.1 27 = .ok (.bipush (20), 2) := by decide +kernel
theorem d_M_adds_29 : decode m_M_adds.2.1 29 = .ok (.aload_n 0, 1) := by decide +kernel
theorem d_M_adds_30 : decode m_M_adds.2.1 30 = .ok (.getfield 81, 3) := by decide +kernel
theorem d_M_adds_33 : decode m_M_adds.2.1 33 = .ok (.iadd, 1) := by decide +kernel
theorem d_M_adds_34 : decode m_M_adds.2.1 34 = .ok (.iload_n 3, 1) := by decide +kernel
theorem d_M_adds_35 : decode m_M_adds.2.1 35 = .ok (.iastore, 1) := by decide +kernel
theorem d_M_adds_36 : decode m_M_adds.2.1 36 = .ok (.aload_n 0, 1) := by decide +kernel
theorem d_M_adds_37 : decode m_M_adds.2.1 37 = .ok (.getfield 9, 3) := by decide +kernel
theorem d_M_adds_40 : decode m_M_adds.2.1 40 = .ok (.bipush (30), 2) := by decide +kernel
theorem d_M_adds_42 : decode m_M_adds.2.1 42 = .ok (.aload_n 0, 1) := by decide +kernel
theorem d_M_adds_43 : decode m_M_adds.2.1 43 = .ok (.getfield 81, 3) := by decide +kernel
theorem d_M_adds_46 : decode m_M_adds.2.1 46 = .ok (.iadd, 1) := by decide +kernel
theorem d_M_adds_47 : decode m_M_adds.2.1 47 = .ok (.iconst (-1), 1) := by decide +kernel
theorem d_M_adds_48 : decode m_M_adds.2.1 48 = .ok (.iastore, 1) := by decide +kernel
theorem d_M_adds_49 : decode m_M_adds.2.1 49 = .ok (.aload_n 0, 1) := by decide +kernel
theorem d_M_adds_50 : decode m_M_adds.2.1 50 = .ok (.dup, 1) := by decide +kernel
theorem d_M_adds_51 : decode m_M_adds.2.1 51 = .ok (.getfield 81, 3) := by decide +kernel
theorem d_M_adds_54 : decode m_M_adds.2.1 54 = .ok (.iconst 1, 1) := by decide +kernel
theorem d_M_adds_55 : decode m_M_adds.2.1 55 = .ok (.iadd, 1) := by decide +kernel
theorem d_M_adds_56 : decode m_M_adds.2.1 56 = .ok (.putfield 81, 3) := by decide +kernel
theorem d_M_adds_59 : decode m_M_adds.2.1 59 = .ok (.return_, 1) := by decide +kernel
theorem d_M_citizen_0 : decode m_M_citizen.2.1 0 = .ok (.iload_n 1, 1) := by decide +kernel
theorem d_M_citizen_1 : decode m_M_citizen.2.1 1 = .ok (.i2l, 1) := by decide +kernel
theorem d_M_citizen_2 : decode m_M_citizen.2.1 2 = .ok (.lconst 0, 1) := by decide +kernel
theorem d_M_citizen_3 : decode m_M_citizen.2.1 3 = .ok (.lconst 0, 1) := by decide +kernel
theorem d_M_citizen_4 : decode m_M_citizen.2.1 4 = .ok (.invokestatic 96, 3) := by decide +kernel
theorem d_M_citizen_7 : decode m_M_citizen.2.1 7 = .ok (.ifCond .ne (5), 3) := by decide +kernel
theorem d_M_citizen_10 : decode m_M_citizen.2.1 10 = .ok (.iconst (-1), 1) := by decide +kernel
theorem d_M_citizen_11 : decode m_M_citizen.2.1 11 = .ok (.ireturn, 1) := by decide +kernel
theorem d_M_citizen_12 : decode m_M_citizen.2.1 12 = .ok (.aload_n 0, 1) := by decide +kernel
theorem d_M_citizen_13 : decode m_M_citizen.2.1 13 = .ok (.getfield 81, 3) := by decide +kernel
theorem d_M_citizen_16 : decode m_M_citizen.2.1 16 = .ok (.bipush (10), 2) := by decide +kernel
theorem d_M_citizen_18 : decode m_M_citizen.2.1 18 = .ok (.if_icmp .ne (6), 3) := by decide +kernel
theorem d_M_citizen_21 : decode m_M_citizen.2.1 21 = .ok (.bipush (-3), 2) := by decide +kernel
theorem d_M_citizen_23 : decode m_M_citizen.2.1 23 = .ok (.ireturn, 1) := by decide +kernel
theorem d_M_citizen_24 : decode m_M_citizen.2.1 24 = .ok (.aload_n 0, 1) := by decide +kernel
theorem d_M_citizen_25 : decode m_M_citizen.2.1 25 = .ok (.iload_n 1, 1) := by decide +kernel
theorem d_M_citizen_26 : decode m_M_citizen.2.1 26 = .ok (.bipush (9), 2) := by decide +kernel
theorem d_M_citizen_28 : decode m_M_citizen.2.1 28 = .ok (.bipush (10), 2) := by decide +kernel
theorem d_M_citizen_30 : decode m_M_citizen.2.1 30 = .ok (.invokevirtual 99, 3) := by decide +kernel
theorem d_M_citizen_33 : decode m_M_citizen.2.1 33 = .ok (.aload_n 0, 1) := by decide +kernel
theorem d_M_citizen_34 : decode m_M_citizen.2.1 34 = .ok (.getfield 81, 3) := by decide +kernel
theorem d_M_citizen_37 : decode m_M_citizen.2.1 37 = .ok (.iconst 1, 1) := by decide +kernel
theorem d_M_citizen_38 : decode m_M_citizen.2.1 38 = .ok (.isub, 1) := by decide +kernel
theorem d_M_citizen_39 : decode m_M_citizen.2.1 39 = .ok (.ireturn, 1) := by decide +kernel
theorem d_M_isShelf_0 : decode m_M_isShelf.2.1 0 = .ok (.iload_n 0, 1) := by decide +kernel
theorem d_M_isShelf_1 : decode m_M_isShelf.2.1 1 = .ok (.i2l, 1) := by decide +kernel
theorem d_M_isShelf_2 : decode m_M_isShelf.2.1 2 = .ok (.lconst 0, 1) := by decide +kernel
theorem d_M_isShelf_3 : decode m_M_isShelf.2.1 3 = .ok (.ldc2_w 88, 3) := by decide +kernel
theorem d_M_isShelf_6 : decode m_M_isShelf.2.1 6 = .ok (.invokestatic 84, 3) := by decide +kernel
theorem d_M_isShelf_9 : decode m_M_isShelf.2.1 9 = .ok (.ireturn, 1) := by decide +kernel
theorem d_M_citizens_0 : decode m_M_citizens.2.1 0 = .ok (.iload_n 1, 1) := by decide +kernel
theorem d_M_citizens_1 : decode m_M_citizens.2.1 1 = .ok (.invokestatic 103, 3) := by decide +kernel
theorem d_M_citizens_4 : decode m_M_citizens.2.1 4 = .ok (.ifCond .eq (15), 3) := by decide +kernel
theorem d_M_citizens_19 : decode m_M_citizens.2.1 19 = .ok (.iconst (-1), 1) := by decide +kernel
theorem d_M_citizens_20 : decode m_M_citizens.2.1 20 = .ok (.ireturn, 1) := by decide +kernel
theorem d_M_citizens_7 : decode m_M_citizens.2.1 7 = .ok (.iload_n 3, 1) := by decide +kernel
theorem d_M_citizens_8 : decode m_M_citizens.2.1 8 = .ok (.i2l, 1) := by decide +kernel
theorem d_M_citizens_9 : decode m_M_citizens.2.1 9 = .ok (.lconst 1, 1) := by decide +kernel
theorem d_M_citizens_10 : decode m_M_citizens.2.1 10 = .ok (.ldc2_w 107, 3) := by decide +kernel
theorem d_M_citizens_13 : decode m_M_citizens.2.1 13 = .ok (.invokestatic 84, 3) := by decide +kernel
theorem d_M_citizens_16 : decode m_M_citizens.2.1 16 = .ok (.ifCond .ne (5), 3) := by decide +kernel
theorem d_M_citizens_21 : decode m_M_citizens.2.1 21 = .ok (.aload_n 0, 1) := by decide +kernel
theorem d_M_citizens_22 : decode m_M_citizens.2.1 22 = .ok (.getfield 58, 3) := by decide +kernel
theorem d_M_citizens_25 : decode m_M_citizens.2.1 25 = .ok (.iload_n 1, 1) := by decide +kernel
theorem d_M_citizens_26 : decode m_M_citizens.2.1 26 = .ok (.iaload, 1) := by decide +kernel
theorem d_M_citizens_27 : decode m_M_citizens.2.1 27 = .ok (.ifCond .lt (17), 3) := by decide +kernel
theorem d_M_citizens_44 : decode m_M_citizens.2.1 44 = .ok (.iconst 0, 1) := by decide +kernel
theorem d_M_citizens_45 : decode m_M_citizens.2.1 45 = .ok (.istore 4, 2) := by decide +kernel
theorem d_M_citizens_47 : decode m_M_citizens.2.1 47 = .ok (.aload_n 0, 1) := by decide +kernel
theorem d_M_citizens_48 : decode m_M_citizens.2.1 48 = .ok (.getfield 58, 3) := by decide +kernel
theorem d_M_citizens_51 : decode m_M_citizens.2.1 51 = .ok (.iload_n 1, 1) := by decide +kernel
theorem d_M_citizens_52 : decode m_M_citizens.2.1 52 = .ok (.iaload, 1) := by decide +kernel
theorem d_M_citizens_53 : decode m_M_citizens.2.1 53 = .ok (.bipush (50), 2) := by decide +kernel
theorem d_M_citizens_55 : decode m_M_citizens.2.1 55 = .ok (.if_icmp .ne (11), 3) := by decide +kernel
theorem d_M_citizens_58 : decode m_M_citizens.2.1 58 = .ok (.iload_n 2, 1) := by decide +kernel
theorem d_M_citizens_59 : decode m_M_citizens.2.1 59 = .ok (.ifCond .lt (7), 3) := by decide +kernel
theorem d_M_citizens_66 : decode m_M_citizens.2.1 66 = .ok (.iconst 0, 1) := by decide +kernel
theorem d_M_citizens_67 : decode m_M_citizens.2.1 67 = .ok (.istore 5, 2) := by decide +kernel
theorem d_M_citizens_69 : decode m_M_citizens.2.1 69 = .ok (.iload 5, 2) := by decide +kernel
theorem d_M_citizens_71 : decode m_M_citizens.2.1 71 = .ok (.ifCond .eq (141), 3) := by decide +kernel
theorem d_M_citizens_212 : decode m_M_citizens.2.1 212 = .ok (.iload 4, 2) := by decide +kernel
theorem d_M_citizens_214 : decode m_M_citizens.2.1 214 = .ok (.ireturn, 1) := by decide +kernel
theorem d_M_citizens_74 : decode m_M_citizens.2.1 74 = .ok (.iload 4, 2) := by decide +kernel
theorem d_M_citizens_76 : decode m_M_citizens.2.1 76 = .ok (.iload_n 3, 1) := by decide +kernel
theorem d_M_citizens_77 : decode m_M_citizens.2.1 77 = .ok (.if_icmp .ge (135), 3) := by decide +kernel
theorem d_M_citizens_80 : decode m_M_citizens.2.1 80 = .ok (.iload_n 2, 1) := by decide +kernel
theorem d_M_citizens_81 : decode m_M_citizens.2.1 81 = .ok (.aload_n 0, 1) := by decide +kernel
theorem d_M_citizens_82 : decode m_M_citizens.2.1 82 = .ok (.getfield 61, 3) := by decide +kernel
theorem d_M_citizens_85 : decode m_M_citizens.2.1 85 = .ok (.iload_n 1, 1) := by decide +kernel
theorem d_M_citizens_86 : decode m_M_citizens.2.1 86 = .ok (.iaload, 1) := by decide +kernel
theorem d_M_citizens_87 : decode m_M_citizens.2.1 87 = .ok (.iconst 3, 1) := by decide +kernel
theorem d_M_citizens_88 : decode m_M_citizens.2.1 88 = .ok (.isub, 1) := by decide +kernel
theorem d_M_citizens_89 : decode m_M_citizens.2.1 89 = .ok (.iconst 3, 1) := by decide +kernel
theorem d_M_citizens_90 : decode m_M_citizens.2.1 90 = .ok (.iload 4, 2) := by decide +kernel
theorem d_M_citizens_92 : decode m_M_citizens.2.1 92 = .ok (.imul, 1) := by decide +kernel
theorem d_M_citizens_93 : decode m_M_citizens.2.1 93 = .ok (.isub, 1) := by decide +kernel
theorem d_M_citizens_94 : decode m_M_citizens.2.1 94 = .ok (.if_icmp .gt (16), 3) := by decide +kernel
theorem d_M_citizens_110 : decode m_M_citizens.2.1 110 = .ok (.iconst 0, 1) := by decide +kernel
theorem d_M_citizens_111 : decode m_M_citizens.2.1 111 = .ok (.istore 5, 2) := by decide +kernel
theorem d_M_citizens_113 : decode m_M_citizens.2.1 113 = .ok (.bipush (60), 2) := by decide +kernel
theorem d_M_citizens_115 : decode m_M_citizens.2.1 115 = .ok (.iload_n 1, 1) := by decide +kernel
theorem d_M_citizens_116 : decode m_M_citizens.2.1 116 = .ok (.imul, 1) := by decide +kernel
theorem d_M_citizens_117 : decode m_M_citizens.2.1 117 = .ok (.iload_n 2, 1) := by decide +kernel
theorem d_M_citizens_118 : decode m_M_citizens.2.1 118 = .ok (.iadd, 1) := by decide +kernel
theorem d_M_citizens_119 : decode m_M_citizens.2.1 119 = .ok (.iconst 3, 1) := by decide +kernel
theorem d_M_citizens_120 : decode m_M_citizens.2.1 120 = .ok (.iload 4, 2) := by decide +kernel
theorem d_M_citizens_122 : decode m_M_citizens.2.1 122 = .ok (.imul, 1) := by decide +kernel
theorem d_M_citizens_123 : decode m_M_citizens.2.1 123 = .ok (.iadd, 1) := by decide +kernel
theorem d_M_citizens_124 : decode m_M_citizens.2.1 124 = .ok (.istore 6, 2) := by decide +kernel
theorem d_M_citizens_126 : decode m_M_citizens.2.1 126 = .ok (.iload 5, 2) := by decide +kernel
theorem d_M_citizens_128 : decode m_M_citizens.2.1 128 = .ok (.ifCond .eq (38), 3) := by decide +kernel
theorem d_M_citizens_166 : decode m_M_citizens.2.1 166 = .ok (.iconst 0, 1) := by decide +kernel
theorem d_M_citizens_167 : decode m_M_citizens.2.1 167 = .ok (.istore 5, 2) := by decide +kernel
theorem d_M_citizens_169 : decode m_M_citizens.2.1 169 = .ok (.iload 5, 2) := by decide +kernel
theorem d_M_citizens_171 : decode m_M_citizens.2.1 171 = .ok (.ifCond .eq (38), 3) := by decide +kernel
theorem d_M_citizens_209 : decode m_M_citizens.2.1 209 = .ok (.goto (-140), 3) := by decide +kernel
theorem d_M_citizens_174 : decode m_M_citizens.2.1 174 = .ok (.aload_n 0, 1) := by decide +kernel
theorem d_M_citizens_175 : decode m_M_citizens.2.1 175 = .ok (.aload_n 0, 1) := by decide +kernel
theorem d_M_citizens_176 : decode m_M_citizens.2.1 176 = .ok (.getfield 64, 3) := by decide +kernel
theorem d_M_citizens_179 : decode m_M_citizens.2.1 179 = .ok (.iload 6, 2) := by decide +kernel
theorem d_M_citizens_181 : decode m_M_citizens.2.1 181 = .ok (.laload, 1) := by decide +kernel
theorem d_M_citizens_182 : decode m_M_citizens.2.1 182 = .ok (.l2i, 1) := by decide +kernel
theorem d_M_citizens_183 : decode m_M_citizens.2.1 183 = .ok (.aload_n 0, 1) := by decide +kernel
theorem d_M_citizens_184 : decode m_M_citizens.2.1 184 = .ok (.getfield 64, 3) := by decide +kernel
theorem d_M_citizens_187 : decode m_M_citizens.2.1 187 = .ok (.iload 6, 2) := by decide +kernel
theorem d_M_citizens_189 : decode m_M_citizens.2.1 189 = .ok (.iconst 1, 1) := by decide +kernel
theorem d_M_citizens_190 : decode m_M_citizens.2.1 190 = .ok (.iadd, 1) := by decide +kernel
theorem d_M_citizens_191 : decode m_M_citizens.2.1 191 = .ok (.laload, 1) := by decide +kernel
theorem d_M_citizens_192 : decode m_M_citizens.2.1 192 = .ok (.l2i, 1) := by decide +kernel
theorem d_M_citizens_193 : decode m_M_citizens.2.1 193 = .ok (.aload_n 0, 1) := by decide +kernel
theorem d_M_citizens_194 : decode m_M_citizens.2.1 194 = .ok (.getfield 64, 3) := by decide +kernel
theorem d_M_citizens_197 : decode m_M_citizens.2.1 197 = .ok (.iload 6, 2) := by decide +kernel
theorem d_M_citizens_199 : decode m_M_citizens.2.1 199 = .ok (.iconst 2, 1) := by decide +kernel
theorem d_M_citizens_200 : decode m_M_citizens.2.1 200 = .ok (.iadd, 1) := by decide +kernel
theorem d_M_citizens_201 : decode m_M_citizens.2.1 201 = .ok (.laload, 1) := by decide +kernel
theorem d_M_citizens_202 : decode m_M_citizens.2.1 202 = .ok (.l2i, 1) := by decide +kernel
theorem d_M_citizens_203 : decode m_M_citizens.2.1 203 = .ok (.invokevirtual 99, 3) := by decide +kernel
theorem d_M_citizens_206 : decode m_M_citizens.2.1 206 = .ok (.iinc 4 (1), 3) := by decide +kernel
theorem d_M_citizens_131 : decode m_M_citizens.2.1 131 = .ok (.aload_n 0, 1) := by decide +kernel
theorem d_M_citizens_132 : decode m_M_citizens.2.1 132 = .ok (.getfield 64, 3) := by decide +kernel
theorem d_M_citizens_135 : decode m_M_citizens.2.1 135 = .ok (.iload 6, 2) := by decide +kernel
theorem d_M_citizens_137 : decode m_M_citizens.2.1 137 = .ok (.laload, 1) := by decide +kernel
theorem d_M_citizens_138 : decode m_M_citizens.2.1 138 = .ok (.aload_n 0, 1) := by decide +kernel
theorem d_M_citizens_139 : decode m_M_citizens.2.1 139 = .ok (.getfield 64, 3) := by decide +kernel
theorem d_M_citizens_142 : decode m_M_citizens.2.1 142 = .ok (.iload 6, 2) := by decide +kernel
theorem d_M_citizens_144 : decode m_M_citizens.2.1 144 = .ok (.iconst 1, 1) := by decide +kernel
theorem d_M_citizens_145 : decode m_M_citizens.2.1 145 = .ok (.iadd, 1) := by decide +kernel
theorem d_M_citizens_146 : decode m_M_citizens.2.1 146 = .ok (.laload, 1) := by decide +kernel
theorem d_M_citizens_147 : decode m_M_citizens.2.1 147 = .ok (.aload_n 0, 1) := by decide +kernel
theorem d_M_citizens_148 : decode m_M_citizens.2.1 148 = .ok (.getfield 64, 3) := by decide +kernel
theorem d_M_citizens_151 : decode m_M_citizens.2.1 151 = .ok (.iload 6, 2) := by decide +kernel
theorem d_M_citizens_153 : decode m_M_citizens.2.1 153 = .ok (.iconst 2, 1) := by decide +kernel
theorem d_M_citizens_154 : decode m_M_citizens.2.1 154 = .ok (.iadd, 1) := by decide +kernel
theorem d_M_citizens_155 : decode m_M_citizens.2.1 155 = .ok (.laload, 1) := by decide +kernel
theorem d_M_citizens_156 : decode m_M_citizens.2.1 156 = .ok (.invokestatic 96, 3) := by decide +kernel
theorem d_M_citizens_159 : decode m_M_citizens.2.1 159 = .ok (.ifCond .eq (7), 3) := by decide +kernel
theorem d_M_citizens_162 : decode m_M_citizens.2.1 162 = .ok (.iconst 1, 1) := by decide +kernel
theorem d_M_citizens_163 : decode m_M_citizens.2.1 163 = .ok (.goto (4), 3) := by decide +kernel
theorem d_M_citizens_97 : decode m_M_citizens.2.1 97 = .ok (.aload_n 0, 1) := by decide +kernel
theorem d_M_citizens_98 : decode m_M_citizens.2.1 98 = .ok (.getfield 81, 3) := by decide +kernel
theorem d_M_citizens_101 : decode m_M_citizens.2.1 101 = .ok (.bipush (10), 2) := by decide +kernel
theorem d_M_citizens_103 : decode m_M_citizens.2.1 103 = .ok (.if_icmp .ge (7), 3) := by decide +kernel
theorem d_M_citizens_106 : decode m_M_citizens.2.1 106 = .ok (.iconst 1, 1) := by decide +kernel
theorem d_M_citizens_107 : decode m_M_citizens.2.1 107 = .ok (.goto (4), 3) := by decide +kernel
theorem d_M_citizens_62 : decode m_M_citizens.2.1 62 = .ok (.iconst 1, 1) := by decide +kernel
theorem d_M_citizens_63 : decode m_M_citizens.2.1 63 = .ok (.goto (4), 3) := by decide +kernel
theorem d_M_citizens_30 : decode m_M_citizens.2.1 30 = .ok (.aload_n 0, 1) := by decide +kernel
theorem d_M_citizens_31 : decode m_M_citizens.2.1 31 = .ok (.getfield 58, 3) := by decide +kernel
theorem d_M_citizens_34 : decode m_M_citizens.2.1 34 = .ok (.iload_n 1, 1) := by decide +kernel
theorem d_M_citizens_35 : decode m_M_citizens.2.1 35 = .ok (.iaload, 1) := by decide +kernel
theorem d_M_citizens_36 : decode m_M_citizens.2.1 36 = .ok (.bipush (50), 2) := by decide +kernel
theorem d_M_citizens_38 : decode m_M_citizens.2.1 38 = .ok (.if_icmp .eq (6), 3) := by decide +kernel
theorem d_M_citizens_41 : decode m_M_citizens.2.1 41 = .ok (.bipush (-12), 2) := by decide +kernel
theorem d_M_citizens_43 : decode m_M_citizens.2.1 43 = .ok (.ireturn, 1) := by decide +kernel
theorem d_M_placeOf_0 : decode m_M_placeOf.2.1 0 = .ok (.iload_n 2, 1) := by decide +kernel
theorem d_M_placeOf_1 : decode m_M_placeOf.2.1 1 = .ok (.i2l, 1) := by decide +kernel
theorem d_M_placeOf_2 : decode m_M_placeOf.2.1 2 = .ok (.lconst 0, 1) := by decide +kernel
theorem d_M_placeOf_3 : decode m_M_placeOf.2.1 3 = .ok (.ldc2_w 109, 3) := by decide +kernel
theorem d_M_placeOf_6 : decode m_M_placeOf.2.1 6 = .ok (.invokestatic 84, 3) := by decide +kernel
theorem d_M_placeOf_9 : decode m_M_placeOf.2.1 9 = .ok (.ifCond .eq (23), 3) := by decide +kernel
theorem d_M_placeOf_32 : decode m_M_placeOf.2.1 32 = .ok (.iload_n 1, 1) := by decide +kernel
theorem d_M_placeOf_33 : decode m_M_placeOf.2.1 33 = .ok (.ifCond .ne (26), 3) := by decide +kernel
theorem d_M_placeOf_36 : decode m_M_placeOf.2.1 36 = .ok (.iload_n 2, 1) := by decide +kernel
theorem d_M_placeOf_37 : decode m_M_placeOf.2.1 37 = .ok (.i2l, 1) := by decide +kernel
theorem d_M_placeOf_38 : decode m_M_placeOf.2.1 38 = .ok (.ldc2_w 115, 3) := by decide +kernel
theorem d_M_placeOf_41 : decode m_M_placeOf.2.1 41 = .ok (.ldc2_w 117, 3) := by decide +kernel
theorem d_M_placeOf_44 : decode m_M_placeOf.2.1 44 = .ok (.invokestatic 84, 3) := by decide +kernel
theorem d_M_placeOf_47 : decode m_M_placeOf.2.1 47 = .ok (.ifCond .eq (12), 3) := by decide +kernel
theorem d_M_placeOf_59 : decode m_M_placeOf.2.1 59 = .ok (.iconst (-1), 1) := by decide +kernel
theorem d_M_placeOf_60 : decode m_M_placeOf.2.1 60 = .ok (.ireturn, 1) := by decide +kernel
theorem d_M_placeOf_50 : decode m_M_placeOf.2.1 50 = .ok (.bipush (40), 2) := by decide +kernel
theorem d_M_placeOf_52 : decode m_M_placeOf.2.1 52 = .ok (.iload_n 2, 1) := by decide +kernel
theorem d_M_placeOf_53 : decode m_M_placeOf.2.1 53 = .ok (.iadd, 1) := by decide +kernel
theorem d_M_placeOf_54 : decode m_M_placeOf.2.1 54 = .ok (.iconst 4, 1) := by decide +kernel
theorem d_M_placeOf_55 : decode m_M_placeOf.2.1 55 = .ok (.isub, 1) := by decide +kernel
theorem d_M_placeOf_56 : decode m_M_placeOf.2.1 56 = .ok (.goto (4), 3) := by decide +kernel
theorem d_M_placeOf_12 : decode m_M_placeOf.2.1 12 = .ok (.aload_n 0, 1) := by decide +kernel
theorem d_M_placeOf_13 : decode m_M_placeOf.2.1 13 = .ok (.iload_n 1, 1) := by decide +kernel
theorem d_M_placeOf_14 : decode m_M_placeOf.2.1 14 = .ok (.i2l, 1) := by decide +kernel
theorem d_M_placeOf_15 : decode m_M_placeOf.2.1 15 = .ok (.invokevirtual 111, 3) := by decide +kernel
theorem d_M_placeOf_18 : decode m_M_placeOf.2.1 18 = .ok (.ifCond .eq (12), 3) := by decide +kernel
theorem d_M_placeOf_30 : decode m_M_placeOf.2.1 30 = .ok (.iconst (-1), 1) := by decide +kernel
theorem d_M_placeOf_31 : decode m_M_placeOf.2.1 31 = .ok (.ireturn, 1) := by decide +kernel
theorem d_M_placeOf_21 : decode m_M_placeOf.2.1 21 = .ok (.bipush (10), 2) := by decide +kernel
theorem d_M_placeOf_23 : decode m_M_placeOf.2.1 23 = .ok (.iload_n 2, 1) := by decide +kernel
theorem d_M_placeOf_24 : decode m_M_placeOf.2.1 24 = .ok (.imul, 1) := by decide +kernel
theorem d_M_placeOf_25 : decode m_M_placeOf.2.1 25 = .ok (.iload_n 1, 1) := by decide +kernel
theorem d_M_placeOf_26 : decode m_M_placeOf.2.1 26 = .ok (.iadd, 1) := by decide +kernel
theorem d_M_placeOf_27 : decode m_M_placeOf.2.1 27 = .ok (.goto (4), 3) := by decide +kernel
theorem d_M_mayBecome_0 : decode m_M_mayBecome.2.1 0 = .ok (.iload_n 0, 1) := by decide +kernel
theorem d_M_mayBecome_1 : decode m_M_mayBecome.2.1 1 = .ok (.tableswitch (94) (0) (5) #[39, 49, 94, 59, 78, 84], 39) := by decide +kernel
theorem d_M_mayBecome_40 : decode m_M_mayBecome.2.1 40 = .ok (.iload_n 1, 1) := by decide +kernel
theorem d_M_mayBecome_41 : decode m_M_mayBecome.2.1 41 = .ok (.i2l, 1) := by decide +kernel
theorem d_M_mayBecome_42 : decode m_M_mayBecome.2.1 42 = .ok (.lconst 0, 1) := by decide +kernel
theorem d_M_mayBecome_43 : decode m_M_mayBecome.2.1 43 = .ok (.ldc2_w 90, 3) := by decide +kernel
theorem d_M_mayBecome_46 : decode m_M_mayBecome.2.1 46 = .ok (.invokestatic 84, 3) := by decide +kernel
theorem d_M_mayBecome_49 : decode m_M_mayBecome.2.1 49 = .ok (.ireturn, 1) := by decide +kernel
theorem d_M_mayBecome_50 : decode m_M_mayBecome.2.1 50 = .ok (.iload_n 1, 1) := by decide +kernel
theorem d_M_mayBecome_51 : decode m_M_mayBecome.2.1 51 = .ok (.i2l, 1) := by decide +kernel
theorem d_M_mayBecome_52 : decode m_M_mayBecome.2.1 52 = .ok (.lconst 0, 1) := by decide +kernel
theorem d_M_mayBecome_53 : decode m_M_mayBecome.2.1 53 = .ok (.ldc2_w 92, 3) := by decide +kernel
theorem d_M_mayBecome_56 : decode m_M_mayBecome.2.1 56 = .ok (.invokestatic 84, 3) := by decide +kernel
theorem d_M_mayBecome_59 : decode m_M_mayBecome.2.1 59 = .ok (.ireturn, 1) := by decide +kernel
theorem d_M_mayBecome_95 : decode m_M_mayBecome.2.1 95 = .ok (.iload_n 1, 1) := by decide +kernel
theorem d_M_mayBecome_96 : decode m_M_mayBecome.2.1 96 = .ok (.i2l, 1) := by decide +kernel
theorem d_M_mayBecome_97 : decode m_M_mayBecome.2.1 97 = .ok (.lconst 0, 1) := by decide +kernel
theorem d_M_mayBecome_98 : decode m_M_mayBecome.2.1 98 = .ok (.ldc2_w 94, 3) := by decide +kernel
theorem d_M_mayBecome_101 : decode m_M_mayBecome.2.1 101 = .ok (.invokestatic 84, 3) := by decide +kernel
theorem d_M_mayBecome_104 : decode m_M_mayBecome.2.1 104 = .ok (.ireturn, 1) := by decide +kernel
theorem d_M_mayBecome_60 : decode m_M_mayBecome.2.1 60 = .ok (.iload_n 1, 1) := by decide +kernel
theorem d_M_mayBecome_61 : decode m_M_mayBecome.2.1 61 = .ok (.iconst (-1), 1) := by decide +kernel
theorem d_M_mayBecome_62 : decode m_M_mayBecome.2.1 62 = .ok (.if_icmp .eq (11), 3) := by decide +kernel
theorem d_M_mayBecome_73 : decode m_M_mayBecome.2.1 73 = .ok (.iconst 1, 1) := by decide +kernel
theorem d_M_mayBecome_74 : decode m_M_mayBecome.2.1 74 = .ok (.goto (4), 3) := by decide +kernel
theorem d_M_mayBecome_78 : decode m_M_mayBecome.2.1 78 = .ok (.ireturn, 1) := by decide +kernel
theorem d_M_mayBecome_65 : decode m_M_mayBecome.2.1 65 = .ok (.iload_n 1, 1) := by decide +kernel
theorem d_M_mayBecome_66 : decode m_M_mayBecome.2.1 66 = .ok (.i2l, 1) := by decide +kernel
theorem d_M_mayBecome_67 : decode m_M_mayBecome.2.1 67 = .ok (.invokestatic 119, 3) := by decide +kernel
theorem d_M_mayBecome_70 : decode m_M_mayBecome.2.1 70 = .ok (.ifCond .eq (7), 3) := by decide +kernel
theorem d_M_mayBecome_77 : decode m_M_mayBecome.2.1 77 = .ok (.iconst 0, 1) := by decide +kernel
theorem d_M_mayBecome_79 : decode m_M_mayBecome.2.1 79 = .ok (.iload_n 1, 1) := by decide +kernel
theorem d_M_mayBecome_80 : decode m_M_mayBecome.2.1 80 = .ok (.i2l, 1) := by decide +kernel
theorem d_M_mayBecome_81 : decode m_M_mayBecome.2.1 81 = .ok (.invokestatic 119, 3) := by decide +kernel
theorem d_M_mayBecome_84 : decode m_M_mayBecome.2.1 84 = .ok (.ireturn, 1) := by decide +kernel
theorem d_M_mayBecome_85 : decode m_M_mayBecome.2.1 85 = .ok (.iload_n 1, 1) := by decide +kernel
theorem d_M_mayBecome_86 : decode m_M_mayBecome.2.1 86 = .ok (.i2l, 1) := by decide +kernel
theorem d_M_mayBecome_87 : decode m_M_mayBecome.2.1 87 = .ok (.lconst 0, 1) := by decide +kernel
theorem d_M_mayBecome_88 : decode m_M_mayBecome.2.1 88 = .ok (.ldc2_w 122, 3) := by decide +kernel
theorem d_M_mayBecome_91 : decode m_M_mayBecome.2.1 91 = .ok (.invokestatic 84, 3) := by decide +kernel
theorem d_M_mayBecome_94 : decode m_M_mayBecome.2.1 94 = .ok (.ireturn, 1) := by decide +kernel
theorem d_M_mend_0 : decode m_M_mend.2.1 0 = .ok (.aload_n 0, 1) := by decide +kernel
theorem d_M_mend_1 : decode m_M_mend.2.1 1 = .ok (.iload_n 1, 1) := by decide +kernel
theorem d_M_mend_2 : decode m_M_mend.2.1 2 = .ok (.iload_n 2, 1) := by decide +kernel
theorem d_M_mend_3 : decode m_M_mend.2.1 3 = .ok (.invokevirtual 124, 3) := by decide +kernel
theorem d_M_mend_6 : decode m_M_mend.2.1 6 = .ok (.istore 4, 2) := by decide +kernel
theorem d_M_mend_8 : decode m_M_mend.2.1 8 = .ok (.iload 4, 2) := by decide +kernel
theorem d_M_mend_10 : decode m_M_mend.2.1 10 = .ok (.ifCond .lt (21), 3) := by decide +kernel
theorem d_M_mend_31 : decode m_M_mend.2.1 31 = .ok (.ldc 135, 2) := by decide +kernel
theorem d_M_mend_33 : decode m_M_mend.2.1 33 = .ok (.ireturn, 1) := by decide +kernel
theorem d_M_mend_13 : decode m_M_mend.2.1 13 = .ok (.iload_n 2, 1) := by decide +kernel
theorem d_M_mend_14 : decode m_M_mend.2.1 14 = .ok (.iload_n 3, 1) := by decide +kernel
theorem d_M_mend_15 : decode m_M_mend.2.1 15 = .ok (.invokestatic 128, 3) := by decide +kernel
theorem d_M_mend_18 : decode m_M_mend.2.1 18 = .ok (.ifCond .eq (13), 3) := by decide +kernel
theorem d_M_mend_21 : decode m_M_mend.2.1 21 = .ok (.aload_n 0, 1) := by decide +kernel
theorem d_M_mend_22 : decode m_M_mend.2.1 22 = .ok (.iload 4, 2) := by decide +kernel
theorem d_M_mend_24 : decode m_M_mend.2.1 24 = .ok (.iload_n 3, 1) := by decide +kernel
theorem d_M_mend_25 : decode m_M_mend.2.1 25 = .ok (.invokevirtual 132, 3) := by decide +kernel
theorem d_M_mend_28 : decode m_M_mend.2.1 28 = .ok (.goto (5), 3) := by decide +kernel
theorem d_M_of_0 : decode m_M_of.2.1 0 = .ok (.aload_n 0, 1) := by decide +kernel
theorem d_M_of_1 : decode m_M_of.2.1 1 = .ok (.iload_n 1, 1) := by decide +kernel
theorem d_M_of_2 : decode m_M_of.2.1 2 = .ok (.iload_n 2, 1) := by decide +kernel
theorem d_M_of_3 : decode m_M_of.2.1 3 = .ok (.invokevirtual 124, 3) := by decide +kernel
theorem d_M_of_6 : decode m_M_of.2.1 6 = .ok (.istore_n 3, 1) := by decide +kernel
theorem d_M_of_7 : decode m_M_of.2.1 7 = .ok (.iload_n 3, 1) := by decide +kernel
theorem d_M_of_8 : decode m_M_of.2.1 8 = .ok (.ifCond .lt (12), 3) := by decide +kernel
theorem d_M_of_20 : decode m_M_of.2.1 20 = .ok (.ldc 135, 2) := by decide +kernel
theorem d_M_of_22 : decode m_M_of.2.1 22 = .ok (.ireturn, 1) := by decide +kernel
theorem d_M_of_11 : decode m_M_of.2.1 11 = .ok (.aload_n 0, 1) := by decide +kernel
theorem d_M_of_12 : decode m_M_of.2.1 12 = .ok (.getfield 9, 3) := by decide +kernel
theorem d_M_of_15 : decode m_M_of.2.1 15 = .ok (.iload_n 3, 1) := by decide +kernel
theorem d_M_of_16 : decode m_M_of.2.1 16 = .ok (.iaload, 1) := by decide +kernel
theorem d_M_of_17 : decode m_M_of.2.1 17 = .ok (.goto (5), 3) := by decide +kernel
theorem d_M_feed_0 : decode m_M_feed.2.1 0 = .ok (.iload_n 1, 1) := by decide +kernel
theorem d_M_feed_1 : decode m_M_feed.2.1 1 = .ok (.i2l, 1) := by decide +kernel
theorem d_M_feed_2 : decode m_M_feed.2.1 2 = .ok (.lconst 0, 1) := by decide +kernel
theorem d_M_feed_3 : decode m_M_feed.2.1 3 = .ok (.ldc2_w 136, 3) := by decide +kernel
theorem d_M_feed_6 : decode m_M_feed.2.1 6 = .ok (.invokestatic 84, 3) := by decide +kernel
theorem d_M_feed_9 : decode m_M_feed.2.1 9 = .ok (.ifCond .ne (5), 3) := by decide +kernel
theorem d_M_feed_12 : decode m_M_feed.2.1 12 = .ok (.iconst (-1), 1) := by decide +kernel
theorem d_M_feed_13 : decode m_M_feed.2.1 13 = .ok (.ireturn, 1) := by decide +kernel
theorem d_M_feed_14 : decode m_M_feed.2.1 14 = .ok (.aload_n 0, 1) := by decide +kernel
theorem d_M_feed_15 : decode m_M_feed.2.1 15 = .ok (.getfield 138, 3) := by decide +kernel
theorem d_M_feed_18 : decode m_M_feed.2.1 18 = .ok (.bipush (120), 2) := by decide +kernel
theorem d_M_feed_20 : decode m_M_feed.2.1 20 = .ok (.if_icmp .ne (6), 3) := by decide +kernel
theorem d_M_feed_23 : decode m_M_feed.2.1 23 = .ok (.bipush (-3), 2) := by decide +kernel
theorem d_M_feed_25 : decode m_M_feed.2.1 25 = .ok (.ireturn, 1) := by decide +kernel
theorem d_M_feed_26 : decode m_M_feed.2.1 26 = .ok (.aload_n 0, 1) := by decide +kernel
theorem d_M_feed_27 : decode m_M_feed.2.1 27 = .ok (.getfield 22, 3) := by decide +kernel
theorem d_M_feed_30 : decode m_M_feed.2.1 30 = .ok (.aload_n 0, 1) := by decide +kernel
theorem d_M_feed_31 : decode m_M_feed.2.1 31 = .ok (.getfield 138, 3) := by decide +kernel
theorem d_M_feed_34 : decode m_M_feed.2.1 34 = .ok (.iload_n 1, 1) := by decide +kernel
theorem d_M_feed_35 : decode m_M_feed.2.1 35 = .ok (.iastore, 1) := by decide +kernel
theorem d_M_feed_36 : decode m_M_feed.2.1 36 = .ok (.aload_n 0, 1) := by decide +kernel
theorem d_M_feed_37 : decode m_M_feed.2.1 37 = .ok (.dup, 1) := by decide +kernel
theorem d_M_feed_38 : decode m_M_feed.2.1 38 = .ok (.getfield 138, 3) := by decide +kernel
theorem d_M_feed_41 : decode m_M_feed.2.1 41 = .ok (.iconst 1, 1) := by decide +kernel
theorem d_M_feed_42 : decode m_M_feed.2.1 42 = .ok (.iadd, 1) := by decide +kernel
theorem d_M_feed_43 : decode m_M_feed.2.1 43 = .ok (.putfield 138, 3) := by decide +kernel
theorem d_M_feed_46 : decode m_M_feed.2.1 46 = .ok (.aload_n 0, 1) := by decide +kernel
theorem d_M_feed_47 : decode m_M_feed.2.1 47 = .ok (.getfield 138, 3) := by decide +kernel
theorem d_M_feed_50 : decode m_M_feed.2.1 50 = .ok (.ireturn, 1) := by decide +kernel
theorem d_M_byteAt_0 : decode m_M_byteAt.2.1 0 = .ok (.aload_n 0, 1) := by decide +kernel
theorem d_M_byteAt_1 : decode m_M_byteAt.2.1 1 = .ok (.getfield 141, 3) := by decide +kernel
theorem d_M_byteAt_4 : decode m_M_byteAt.2.1 4 = .ok (.aload_n 0, 1) := by decide +kernel
theorem d_M_byteAt_5 : decode m_M_byteAt.2.1 5 = .ok (.getfield 144, 3) := by decide +kernel
theorem d_M_byteAt_8 : decode m_M_byteAt.2.1 8 = .ok (.if_icmp .ge (39), 3) := by decide +kernel
theorem d_M_byteAt_47 : decode m_M_byteAt.2.1 47 = .ok (.iconst 0, 1) := by decide +kernel
theorem d_M_byteAt_48 : decode m_M_byteAt.2.1 48 = .ok (.ireturn, 1) := by decide +kernel
theorem d_M_byteAt_11 : decode m_M_byteAt.2.1 11 = .ok (.aload_n 0, 1) := by decide +kernel
theorem d_M_byteAt_12 : decode m_M_byteAt.2.1 12 = .ok (.getfield 147, 3) := by decide +kernel
theorem d_M_byteAt_15 : decode m_M_byteAt.2.1 15 = .ok (.ifCond .ge (15), 3) := by decide +kernel
theorem d_M_byteAt_30 : decode m_M_byteAt.2.1 30 = .ok (.aload_n 0, 1) := by decide +kernel
theorem d_M_byteAt_31 : decode m_M_byteAt.2.1 31 = .ok (.getfield 25, 3) := by decide +kernel
theorem d_M_byteAt_34 : decode m_M_byteAt.2.1 34 = .ok (.aload_n 0, 1) := by decide +kernel
theorem d_M_byteAt_35 : decode m_M_byteAt.2.1 35 = .ok (.getfield 147, 3) := by decide +kernel
theorem d_M_byteAt_38 : decode m_M_byteAt.2.1 38 = .ok (.aload_n 0, 1) := by decide +kernel
theorem d_M_byteAt_39 : decode m_M_byteAt.2.1 39 = .ok (.getfield 141, 3) := by decide +kernel
theorem d_M_byteAt_42 : decode m_M_byteAt.2.1 42 = .ok (.iadd, 1) := by decide +kernel
theorem d_M_byteAt_43 : decode m_M_byteAt.2.1 43 = .ok (.iaload, 1) := by decide +kernel
theorem d_M_byteAt_44 : decode m_M_byteAt.2.1 44 = .ok (.goto (4), 3) := by decide +kernel
theorem d_M_byteAt_18 : decode m_M_byteAt.2.1 18 = .ok (.aload_n 0, 1) := by decide +kernel
theorem d_M_byteAt_19 : decode m_M_byteAt.2.1 19 = .ok (.getfield 22, 3) := by decide +kernel
theorem d_M_byteAt_22 : decode m_M_byteAt.2.1 22 = .ok (.aload_n 0, 1) := by decide +kernel
theorem d_M_byteAt_23 : decode m_M_byteAt.2.1 23 = .ok (.getfield 141, 3) := by decide +kernel
theorem d_M_byteAt_26 : decode m_M_byteAt.2.1 26 = .ok (.iaload, 1) := by decide +kernel
theorem d_M_byteAt_27 : decode m_M_byteAt.2.1 27 = .ok (.goto (21), 3) := by decide +kernel
theorem d_M_wrong_0 : decode m_M_wrong.2.1 0 = .ok (.aload_n 0, 1) := by decide +kernel
theorem d_M_wrong_1 : decode m_M_wrong.2.1 1 = .ok (.aload_n 0, 1) := by decide +kernel
theorem d_M_wrong_2 : decode m_M_wrong.2.1 2 = .ok (.getfield 150, 3) := by decide +kernel
theorem d_M_wrong_5 : decode m_M_wrong.2.1 5 = .ok (.ifCond .ge (10), 3) := by decide +kernel
theorem d_M_wrong_15 : decode m_M_wrong.2.1 15 = .ok (.aload_n 0, 1) := by decide +kernel
theorem d_M_wrong_16 : decode m_M_wrong.2.1 16 = .ok (.getfield 150, 3) := by decide +kernel
theorem d_M_wrong_19 : decode m_M_wrong.2.1 19 = .ok (.putfield 150, 3) := by decide +kernel
theorem d_M_wrong_22 : decode m_M_wrong.2.1 22 = .ok (.iconst 0, 1) := by decide +kernel
theorem d_M_wrong_23 : decode m_M_wrong.2.1 23 = .ok (.ireturn, 1) := by decide +kernel
theorem d_M_wrong_8 : decode m_M_wrong.2.1 8 = .ok (.aload_n 0, 1) := by decide +kernel
theorem d_M_wrong_9 : decode m_M_wrong.2.1 9 = .ok (.getfield 141, 3) := by decide +kernel
theorem d_M_wrong_12 : decode m_M_wrong.2.1 12 = .ok (.goto (7), 3) := by decide +kernel
theorem d_M_takes_0 : decode m_M_takes.2.1 0 = .ok (.aload_n 0, 1) := by decide +kernel
theorem d_M_takes_1 : decode m_M_takes.2.1 1 = .ok (.getfield 150, 3) := by decide +kernel
theorem d_M_takes_4 : decode m_M_takes.2.1 4 = .ok (.ifCond .ge (11), 3) := by decide +kernel
theorem d_M_takes_15 : decode m_M_takes.2.1 15 = .ok (.iconst 0, 1) := by decide +kernel
theorem d_M_takes_16 : decode m_M_takes.2.1 16 = .ok (.ireturn, 1) := by decide +kernel
theorem d_M_takes_7 : decode m_M_takes.2.1 7 = .ok (.aload_n 0, 1) := by decide +kernel
theorem d_M_takes_8 : decode m_M_takes.2.1 8 = .ok (.invokevirtual 153, 3) := by decide +kernel
theorem d_M_takes_11 : decode m_M_takes.2.1 11 = .ok (.iload_n 1, 1) := by decide +kernel
theorem d_M_takes_12 : decode m_M_takes.2.1 12 = .ok (.if_icmp .eq (5), 3) := by decide +kernel
theorem d_M_takes_17 : decode m_M_takes.2.1 17 = .ok (.aload_n 0, 1) := by decide +kernel
theorem d_M_takes_18 : decode m_M_takes.2.1 18 = .ok (.dup, 1) := by decide +kernel
theorem d_M_takes_19 : decode m_M_takes.2.1 19 = .ok (.getfield 141, 3) := by decide +kernel
theorem d_M_takes_22 : decode m_M_takes.2.1 22 = .ok (.iconst 1, 1) := by decide +kernel
theorem d_M_takes_23 : decode m_M_takes.2.1 23 = .ok (.iadd, 1) := by decide +kernel
theorem d_M_takes_24 : decode m_M_takes.2.1 24 = .ok (.putfield 141, 3) := by decide +kernel
theorem d_M_takes_27 : decode m_M_takes.2.1 27 = .ok (.iconst 1, 1) := by decide +kernel
theorem d_M_takes_28 : decode m_M_takes.2.1 28 = .ok (.ireturn, 1) := by decide +kernel
theorem d_M_nameOf_0 : decode m_M_nameOf.2.1 0 = .ok (.iload_n 0, 1) := by decide +kernel
theorem d_M_nameOf_1 : decode m_M_nameOf.2.1 1 = .ok (.tableswitch (99) (99) (116) #[97, 95, 89, 99, 99, 99, 99, 99, 91, 99, 99, 99, 99, 93, 99, 99, 99, 87], 87) := by decide +kernel
theorem d_M_nameOf_98 : decode m_M_nameOf.2.1 98 = .ok (.iconst 5, 1) := by decide +kernel
theorem d_M_nameOf_99 : decode m_M_nameOf.2.1 99 = .ok (.ireturn, 1) := by decide +kernel
theorem d_M_nameOf_96 : decode m_M_nameOf.2.1 96 = .ok (.iconst 4, 1) := by decide +kernel
theorem d_M_nameOf_97 : decode m_M_nameOf.2.1 97 = .ok (.ireturn, 1) := by decide +kernel
theorem d_M_nameOf_90 : decode m_M_nameOf.2.1 90 = .ok (.iconst 1, 1) := by decide +kernel
theorem d_M_nameOf_91 : decode m_M_nameOf.2.1 91 = .ok (.ireturn, 1) := by decide +kernel
theorem d_M_nameOf_100 : decode m_M_nameOf.2.1 100 = .ok (.iconst (-1), 1) := by decide +kernel
theorem d_M_nameOf_101 : decode m_M_nameOf.2.1 101 = .ok (.ireturn, 1) := by decide +kernel
theorem d_M_nameOf_92 : decode m_M_nameOf.2.1 92 = .ok (.iconst 2, 1) := by decide +kernel
theorem d_M_nameOf_93 : decode m_M_nameOf.2.1 93 = .ok (.ireturn, 1) := by decide +kernel
theorem d_M_nameOf_94 : decode m_M_nameOf.2.1 94 = .ok (.iconst 3, 1) := by decide +kernel
theorem d_M_nameOf_95 : decode m_M_nameOf.2.1 95 = .ok (.ireturn, 1) := by decide +kernel
theorem d_M_nameOf_88 : decode m_M_nameOf.2.1 88 = .ok (.iconst 0, 1) := by decide +kernel
theorem d_M_nameOf_89 : decode m_M_nameOf.2.1 89 = .ok (.ireturn, 1) := by decide +kernel
theorem d_M_product_0 : decode m_M_product.2.1 0 = .ok (.aload_n 0, 1) := by decide +kernel
theorem d_M_product_1 : decode m_M_product.2.1 1 = .ok (.invokevirtual 172, 3) := by decide +kernel
theorem d_M_product_4 : decode m_M_product.2.1 4 = .ok (.istore_n 1, 1) := by decide +kernel
theorem d_M_product_5 : decode m_M_product.2.1 5 = .ok (.aload_n 0, 1) := by decide +kernel
theorem d_M_product_6 : decode m_M_product.2.1 6 = .ok (.invokevirtual 153, 3) := by decide +kernel
theorem d_M_product_9 : decode m_M_product.2.1 9 = .ok (.istore_n 2, 1) := by decide +kernel
theorem d_M_product_10 : decode m_M_product.2.1 10 = .ok (.aload_n 0, 1) := by decide +kernel
theorem d_M_product_11 : decode m_M_product.2.1 11 = .ok (.getfield 150, 3) := by decide +kernel
theorem d_M_product_14 : decode m_M_product.2.1 14 = .ok (.ifCond .ge (80), 3) := by decide +kernel
theorem d_M_product_94 : decode m_M_product.2.1 94 = .ok (.iload_n 1, 1) := by decide +kernel
theorem d_M_product_95 : decode m_M_product.2.1 95 = .ok (.ireturn, 1) := by decide +kernel
theorem d_M_product_17 : decode m_M_product.2.1 17 = .ok (.iload_n 2, 1) := by decide +kernel
theorem d_M_product_18 : decode m_M_product.2.1 18 = .ok (.bipush (42), 2) := by decide +kernel
theorem d_M_product_20 : decode m_M_product.2.1 20 = .ok (.if_icmp .eq (15), 3) := by decide +kernel
theorem d_M_product_35 : decode m_M_product.2.1 35 = .ok (.aload_n 0, 1) := by decide +kernel
theorem d_M_product_36 : decode m_M_product.2.1 36 = .ok (.dup, 1) := by decide +kernel
theorem d_M_product_37 : decode m_M_product.2.1 37 = .ok (.getfield 141, 3) := by decide +kernel
theorem d_M_product_40 : decode m_M_product.2.1 40 = .ok (.iconst 1, 1) := by decide +kernel
theorem d_M_product_41 : decode m_M_product.2.1 41 = .ok (.iadd, 1) := by decide +kernel
theorem d_M_product_42 : decode m_M_product.2.1 42 = .ok (.putfield 141, 3) := by decide +kernel
theorem d_M_product_45 : decode m_M_product.2.1 45 = .ok (.aload_n 0, 1) := by decide +kernel
theorem d_M_product_46 : decode m_M_product.2.1 46 = .ok (.invokevirtual 172, 3) := by decide +kernel
theorem d_M_product_49 : decode m_M_product.2.1 49 = .ok (.istore_n 3, 1) := by decide +kernel
theorem d_M_product_50 : decode m_M_product.2.1 50 = .ok (.iload_n 2, 1) := by decide +kernel
theorem d_M_product_51 : decode m_M_product.2.1 51 = .ok (.bipush (42), 2) := by decide +kernel
theorem d_M_product_53 : decode m_M_product.2.1 53 = .ok (.if_icmp .ne (9), 3) := by decide +kernel
theorem d_M_product_56 : decode m_M_product.2.1 56 = .ok (.iload_n 1, 1) := by decide +kernel
theorem d_M_product_57 : decode m_M_product.2.1 57 = .ok (.iload_n 3, 1) := by decide +kernel
theorem d_M_product_58 : decode m_M_product.2.1 58 = .ok (.imul, 1) := by decide +kernel
theorem d_M_product_59 : decode m_M_product.2.1 59 = .ok (.goto (26), 3) := by decide +kernel
theorem d_M_product_85 : decode m_M_product.2.1 85 = .ok (.istore_n 1, 1) := by decide +kernel
theorem d_M_product_86 : decode m_M_product.2.1 86 = .ok (.aload_n 0, 1) := by decide +kernel
theorem d_M_product_87 : decode m_M_product.2.1 87 = .ok (.invokevirtual 153, 3) := by decide +kernel
theorem d_M_product_90 : decode m_M_product.2.1 90 = .ok (.istore_n 2, 1) := by decide +kernel
theorem d_M_product_91 : decode m_M_product.2.1 91 = .ok (.goto (-81), 3) := by decide +kernel
theorem d_M_product_62 : decode m_M_product.2.1 62 = .ok (.iload_n 3, 1) := by decide +kernel
theorem d_M_product_63 : decode m_M_product.2.1 63 = .ok (.ifCond .ne (7), 3) := by decide +kernel
theorem d_M_product_66 : decode m_M_product.2.1 66 = .ok (.iconst 0, 1) := by decide +kernel
theorem d_M_product_67 : decode m_M_product.2.1 67 = .ok (.goto (18), 3) := by decide +kernel
theorem d_M_product_70 : decode m_M_product.2.1 70 = .ok (.iload_n 2, 1) := by decide +kernel
theorem d_M_product_71 : decode m_M_product.2.1 71 = .ok (.bipush (47), 2) := by decide +kernel
theorem d_M_product_73 : decode m_M_product.2.1 73 = .ok (.if_icmp .ne (9), 3) := by decide +kernel
theorem d_M_product_76 : decode m_M_product.2.1 76 = .ok (.iload_n 1, 1) := by decide +kernel
theorem d_M_product_77 : decode m_M_product.2.1 77 = .ok (.iload_n 3, 1) := by decide +kernel
theorem d_M_product_78 : decode m_M_product.2.1 78 = .ok (.idiv, 1) := by decide +kernel
theorem d_M_product_79 : decode m_M_product.2.1 79 = .ok (.goto (6), 3) := by decide +kernel
theorem d_M_product_82 : decode m_M_product.2.1 82 = .ok (.iload_n 1, 1) := by decide +kernel
theorem d_M_product_83 : decode m_M_product.2.1 83 = .ok (.iload_n 3, 1) := by decide +kernel
theorem d_M_product_84 : decode m_M_product.2.1 84 = .ok (.irem, 1) := by decide +kernel
theorem d_M_product_23 : decode m_M_product.2.1 23 = .ok (.iload_n 2, 1) := by decide +kernel
theorem d_M_product_24 : decode m_M_product.2.1 24 = .ok (.bipush (47), 2) := by decide +kernel
theorem d_M_product_26 : decode m_M_product.2.1 26 = .ok (.if_icmp .eq (9), 3) := by decide +kernel
theorem d_M_product_29 : decode m_M_product.2.1 29 = .ok (.iload_n 2, 1) := by decide +kernel
theorem d_M_product_30 : decode m_M_product.2.1 30 = .ok (.bipush (37), 2) := by decide +kernel
theorem d_M_product_32 : decode m_M_product.2.1 32 = .ok (.if_icmp .ne (62), 3) := by decide +kernel
theorem d_M_sums_0 : decode m_M_sums.2.1 0 = .ok (.aload_n 0, 1) := by decide +kernel
theorem d_M_sums_1 : decode m_M_sums.2.1 1 = .ok (.invokevirtual 169, 3) := by decide +kernel
theorem d_M_sums_4 : decode m_M_sums.2.1 4 = .ok (.istore_n 1, 1) := by decide +kernel
theorem d_M_sums_5 : decode m_M_sums.2.1 5 = .ok (.aload_n 0, 1) := by decide +kernel
theorem d_M_sums_6 : decode m_M_sums.2.1 6 = .ok (.getfield 150, 3) := by decide +kernel
theorem d_M_sums_9 : decode m_M_sums.2.1 9 = .ok (.ifCond .ge (68), 3) := by decide +kernel
theorem d_M_sums_77 : decode m_M_sums.2.1 77 = .ok (.iload_n 1, 1) := by decide +kernel
theorem d_M_sums_78 : decode m_M_sums.2.1 78 = .ok (.ireturn, 1) := by decide +kernel
theorem d_M_sums_12 : decode m_M_sums.2.1 12 = .ok (.aload_n 0, 1) := by decide +kernel
theorem d_M_sums_13 : decode m_M_sums.2.1 13 = .ok (.invokevirtual 153, 3) := by decide +kernel
theorem d_M_sums_16 : decode m_M_sums.2.1 16 = .ok (.bipush (43), 2) := by decide +kernel
theorem d_M_sums_18 : decode m_M_sums.2.1 18 = .ok (.if_icmp .eq (12), 3) := by decide +kernel
theorem d_M_sums_30 : decode m_M_sums.2.1 30 = .ok (.aload_n 0, 1) := by decide +kernel
theorem d_M_sums_31 : decode m_M_sums.2.1 31 = .ok (.invokevirtual 153, 3) := by decide +kernel
theorem d_M_sums_34 : decode m_M_sums.2.1 34 = .ok (.bipush (43), 2) := by decide +kernel
theorem d_M_sums_36 : decode m_M_sums.2.1 36 = .ok (.if_icmp .ne (7), 3) := by decide +kernel
theorem d_M_sums_39 : decode m_M_sums.2.1 39 = .ok (.iconst 1, 1) := by decide +kernel
theorem d_M_sums_40 : decode m_M_sums.2.1 40 = .ok (.goto (4), 3) := by decide +kernel
theorem d_M_sums_44 : decode m_M_sums.2.1 44 = .ok (.istore_n 2, 1) := by decide +kernel
theorem d_M_sums_45 : decode m_M_sums.2.1 45 = .ok (.aload_n 0, 1) := by decide +kernel
theorem d_M_sums_46 : decode m_M_sums.2.1 46 = .ok (.dup, 1) := by decide +kernel
theorem d_M_sums_47 : decode m_M_sums.2.1 47 = .ok (.getfield 141, 3) := by decide +kernel
theorem d_M_sums_50 : decode m_M_sums.2.1 50 = .ok (.iconst 1, 1) := by decide +kernel
theorem d_M_sums_51 : decode m_M_sums.2.1 51 = .ok (.iadd, 1) := by decide +kernel
theorem d_M_sums_52 : decode m_M_sums.2.1 52 = .ok (.putfield 141, 3) := by decide +kernel
theorem d_M_sums_55 : decode m_M_sums.2.1 55 = .ok (.aload_n 0, 1) := by decide +kernel
theorem d_M_sums_56 : decode m_M_sums.2.1 56 = .ok (.invokevirtual 169, 3) := by decide +kernel
theorem d_M_sums_59 : decode m_M_sums.2.1 59 = .ok (.istore_n 3, 1) := by decide +kernel
theorem d_M_sums_60 : decode m_M_sums.2.1 60 = .ok (.iload_n 2, 1) := by decide +kernel
theorem d_M_sums_61 : decode m_M_sums.2.1 61 = .ok (.ifCond .eq (9), 3) := by decide +kernel
theorem d_M_sums_70 : decode m_M_sums.2.1 70 = .ok (.iload_n 1, 1) := by decide +kernel
theorem d_M_sums_71 : decode m_M_sums.2.1 71 = .ok (.iload_n 3, 1) := by decide +kernel
theorem d_M_sums_72 : decode m_M_sums.2.1 72 = .ok (.isub, 1) := by decide +kernel
theorem d_M_sums_73 : decode m_M_sums.2.1 73 = .ok (.istore_n 1, 1) := by decide +kernel
theorem d_M_sums_74 : decode m_M_sums.2.1 74 = .ok (.goto (-69), 3) := by decide +kernel
theorem d_M_sums_64 : decode m_M_sums.2.1 64 = .ok (.iload_n 1, 1) := by decide +kernel
theorem d_M_sums_65 : decode m_M_sums.2.1 65 = .ok (.iload_n 3, 1) := by decide +kernel
theorem d_M_sums_66 : decode m_M_sums.2.1 66 = .ok (.iadd, 1) := by decide +kernel
theorem d_M_sums_67 : decode m_M_sums.2.1 67 = .ok (.goto (6), 3) := by decide +kernel
theorem d_M_sums_43 : decode m_M_sums.2.1 43 = .ok (.iconst 0, 1) := by decide +kernel
theorem d_M_sums_21 : decode m_M_sums.2.1 21 = .ok (.aload_n 0, 1) := by decide +kernel
theorem d_M_sums_22 : decode m_M_sums.2.1 22 = .ok (.invokevirtual 153, 3) := by decide +kernel
theorem d_M_sums_25 : decode m_M_sums.2.1 25 = .ok (.bipush (45), 2) := by decide +kernel
theorem d_M_sums_27 : decode m_M_sums.2.1 27 = .ok (.if_icmp .ne (50), 3) := by decide +kernel
theorem d_M_compared_0 : decode m_M_compared.2.1 0 = .ok (.aload_n 0, 1) := by decide +kernel
theorem d_M_compared_1 : decode m_M_compared.2.1 1 = .ok (.invokevirtual 166, 3) := by decide +kernel
theorem d_M_compared_4 : decode m_M_compared.2.1 4 = .ok (.istore_n 1, 1) := by decide +kernel
theorem d_M_compared_5 : decode m_M_compared.2.1 5 = .ok (.aload_n 0, 1) := by decide +kernel
theorem d_M_compared_6 : decode m_M_compared.2.1 6 = .ok (.invokevirtual 153, 3) := by decide +kernel
theorem d_M_compared_9 : decode m_M_compared.2.1 9 = .ok (.istore_n 2, 1) := by decide +kernel
theorem d_M_compared_10 : decode m_M_compared.2.1 10 = .ok (.aload_n 0, 1) := by decide +kernel
theorem d_M_compared_11 : decode m_M_compared.2.1 11 = .ok (.getfield 150, 3) := by decide +kernel
theorem d_M_compared_14 : decode m_M_compared.2.1 14 = .ok (.ifCond .ge (21), 3) := by decide +kernel
theorem d_M_compared_35 : decode m_M_compared.2.1 35 = .ok (.iload_n 1, 1) := by decide +kernel
theorem d_M_compared_36 : decode m_M_compared.2.1 36 = .ok (.ireturn, 1) := by decide +kernel
theorem d_M_compared_17 : decode m_M_compared.2.1 17 = .ok (.iload_n 2, 1) := by decide +kernel
theorem d_M_compared_18 : decode m_M_compared.2.1 18 = .ok (.bipush (60), 2) := by decide +kernel
theorem d_M_compared_20 : decode m_M_compared.2.1 20 = .ok (.if_icmp .eq (17), 3) := by decide +kernel
theorem d_M_compared_37 : decode m_M_compared.2.1 37 = .ok (.aload_n 0, 1) := by decide +kernel
theorem d_M_compared_38 : decode m_M_compared.2.1 38 = .ok (.dup, 1) := by decide +kernel
theorem d_M_compared_39 : decode m_M_compared.2.1 39 = .ok (.getfield 141, 3) := by decide +kernel
theorem d_M_compared_42 : decode m_M_compared.2.1 42 = .ok (.iconst 1, 1) := by decide +kernel
theorem d_M_compared_43 : decode m_M_compared.2.1 43 = .ok (.iadd, 1) := by decide +kernel
theorem d_M_compared_44 : decode m_M_compared.2.1 44 = .ok (.putfield 141, 3) := by decide +kernel
theorem d_M_compared_47 : decode m_M_compared.2.1 47 = .ok (.aload_n 0, 1) := by decide +kernel
theorem d_M_compared_48 : decode m_M_compared.2.1 48 = .ok (.invokevirtual 166, 3) := by decide +kernel
theorem d_M_compared_51 : decode m_M_compared.2.1 51 = .ok (.istore_n 3, 1) := by decide +kernel
theorem d_M_compared_52 : decode m_M_compared.2.1 52 = .ok (.iload_n 2, 1) := by decide +kernel
theorem d_M_compared_53 : decode m_M_compared.2.1 53 = .ok (.bipush (60), 2) := by decide +kernel
theorem d_M_compared_55 : decode m_M_compared.2.1 55 = .ok (.if_icmp .ne (11), 3) := by decide +kernel
theorem d_M_compared_58 : decode m_M_compared.2.1 58 = .ok (.iload_n 1, 1) := by decide +kernel
theorem d_M_compared_59 : decode m_M_compared.2.1 59 = .ok (.iload_n 3, 1) := by decide +kernel
theorem d_M_compared_60 : decode m_M_compared.2.1 60 = .ok (.if_icmp .ge (29), 3) := by decide +kernel
theorem d_M_compared_89 : decode m_M_compared.2.1 89 = .ok (.iconst 0, 1) := by decide +kernel
theorem d_M_compared_90 : decode m_M_compared.2.1 90 = .ok (.ireturn, 1) := by decide +kernel
theorem d_M_compared_63 : decode m_M_compared.2.1 63 = .ok (.goto (22), 3) := by decide +kernel
theorem d_M_compared_85 : decode m_M_compared.2.1 85 = .ok (.iconst 1, 1) := by decide +kernel
theorem d_M_compared_86 : decode m_M_compared.2.1 86 = .ok (.goto (4), 3) := by decide +kernel
theorem d_M_compared_66 : decode m_M_compared.2.1 66 = .ok (.iload_n 2, 1) := by decide +kernel
theorem d_M_compared_67 : decode m_M_compared.2.1 67 = .ok (.bipush (61), 2) := by decide +kernel
theorem d_M_compared_69 : decode m_M_compared.2.1 69 = .ok (.if_icmp .ne (11), 3) := by decide +kernel
theorem d_M_compared_72 : decode m_M_compared.2.1 72 = .ok (.iload_n 1, 1) := by decide +kernel
theorem d_M_compared_73 : decode m_M_compared.2.1 73 = .ok (.iload_n 3, 1) := by decide +kernel
theorem d_M_compared_74 : decode m_M_compared.2.1 74 = .ok (.if_icmp .ne (15), 3) := by decide +kernel
theorem d_M_compared_77 : decode m_M_compared.2.1 77 = .ok (.goto (8), 3) := by decide +kernel
theorem d_M_compared_80 : decode m_M_compared.2.1 80 = .ok (.iload_n 1, 1) := by decide +kernel
theorem d_M_compared_81 : decode m_M_compared.2.1 81 = .ok (.iload_n 3, 1) := by decide +kernel
theorem d_M_compared_82 : decode m_M_compared.2.1 82 = .ok (.if_icmp .le (7), 3) := by decide +kernel
theorem d_M_compared_23 : decode m_M_compared.2.1 23 = .ok (.iload_n 2, 1) := by decide +kernel
theorem d_M_compared_24 : decode m_M_compared.2.1 24 = .ok (.bipush (61), 2) := by decide +kernel
theorem d_M_compared_26 : decode m_M_compared.2.1 26 = .ok (.if_icmp .eq (11), 3) := by decide +kernel
theorem d_M_compared_29 : decode m_M_compared.2.1 29 = .ok (.iload_n 2, 1) := by decide +kernel
theorem d_M_compared_30 : decode m_M_compared.2.1 30 = .ok (.bipush (62), 2) := by decide +kernel
theorem d_M_compared_32 : decode m_M_compared.2.1 32 = .ok (.if_icmp .eq (5), 3) := by decide +kernel
theorem d_M_both_0 : decode m_M_both.2.1 0 = .ok (.aload_n 0, 1) := by decide +kernel
theorem d_M_both_1 : decode m_M_both.2.1 1 = .ok (.invokevirtual 163, 3) := by decide +kernel
theorem d_M_both_4 : decode m_M_both.2.1 4 = .ok (.istore_n 1, 1) := by decide +kernel
theorem d_M_both_5 : decode m_M_both.2.1 5 = .ok (.aload_n 0, 1) := by decide +kernel
theorem d_M_both_6 : decode m_M_both.2.1 6 = .ok (.bipush (38), 2) := by decide +kernel
theorem d_M_both_8 : decode m_M_both.2.1 8 = .ok (.invokevirtual 160, 3) := by decide +kernel
theorem d_M_both_11 : decode m_M_both.2.1 11 = .ok (.ifCond .eq (25), 3) := by decide +kernel
theorem d_M_both_36 : decode m_M_both.2.1 36 = .ok (.iload_n 1, 1) := by decide +kernel
theorem d_M_both_37 : decode m_M_both.2.1 37 = .ok (.ireturn, 1) := by decide +kernel
theorem d_M_both_14 : decode m_M_both.2.1 14 = .ok (.aload_n 0, 1) := by decide +kernel
theorem d_M_both_15 : decode m_M_both.2.1 15 = .ok (.invokevirtual 163, 3) := by decide +kernel
theorem d_M_both_18 : decode m_M_both.2.1 18 = .ok (.istore_n 2, 1) := by decide +kernel
theorem d_M_both_19 : decode m_M_both.2.1 19 = .ok (.iload_n 1, 1) := by decide +kernel
theorem d_M_both_20 : decode m_M_both.2.1 20 = .ok (.ifCond .eq (11), 3) := by decide +kernel
theorem d_M_both_31 : decode m_M_both.2.1 31 = .ok (.iconst 0, 1) := by decide +kernel
theorem d_M_both_32 : decode m_M_both.2.1 32 = .ok (.istore_n 1, 1) := by decide +kernel
theorem d_M_both_33 : decode m_M_both.2.1 33 = .ok (.goto (-28), 3) := by decide +kernel
theorem d_M_both_23 : decode m_M_both.2.1 23 = .ok (.iload_n 2, 1) := by decide +kernel
theorem d_M_both_24 : decode m_M_both.2.1 24 = .ok (.ifCond .eq (7), 3) := by decide +kernel
theorem d_M_both_27 : decode m_M_both.2.1 27 = .ok (.iconst 1, 1) := by decide +kernel
theorem d_M_both_28 : decode m_M_both.2.1 28 = .ok (.goto (4), 3) := by decide +kernel
theorem d_M_either_0 : decode m_M_either.2.1 0 = .ok (.aload_n 0, 1) := by decide +kernel
theorem d_M_either_1 : decode m_M_either.2.1 1 = .ok (.invokevirtual 157, 3) := by decide +kernel
theorem d_M_either_4 : decode m_M_either.2.1 4 = .ok (.istore_n 1, 1) := by decide +kernel
theorem d_M_either_5 : decode m_M_either.2.1 5 = .ok (.aload_n 0, 1) := by decide +kernel
theorem d_M_either_6 : decode m_M_either.2.1 6 = .ok (.bipush (124), 2) := by decide +kernel
theorem d_M_either_8 : decode m_M_either.2.1 8 = .ok (.invokevirtual 160, 3) := by decide +kernel
theorem d_M_either_11 : decode m_M_either.2.1 11 = .ok (.ifCond .eq (25), 3) := by decide +kernel
theorem d_M_either_36 : decode m_M_either.2.1 36 = .ok (.iload_n 1, 1) := by decide +kernel
theorem d_M_either_37 : decode m_M_either.2.1 37 = .ok (.ireturn, 1) := by decide +kernel
theorem d_M_either_14 : decode m_M_either.2.1 14 = .ok (.aload_n 0, 1) := by decide +kernel
theorem d_M_either_15 : decode m_M_either.2.1 15 = .ok (.invokevirtual 157, 3) := by decide +kernel
theorem d_M_either_18 : decode m_M_either.2.1 18 = .ok (.istore_n 2, 1) := by decide +kernel
theorem d_M_either_19 : decode m_M_either.2.1 19 = .ok (.iload_n 1, 1) := by decide +kernel
theorem d_M_either_20 : decode m_M_either.2.1 20 = .ok (.ifCond .ne (7), 3) := by decide +kernel
theorem d_M_either_23 : decode m_M_either.2.1 23 = .ok (.iload_n 2, 1) := by decide +kernel
theorem d_M_either_24 : decode m_M_either.2.1 24 = .ok (.ifCond .eq (7), 3) := by decide +kernel
theorem d_M_either_31 : decode m_M_either.2.1 31 = .ok (.iconst 0, 1) := by decide +kernel
theorem d_M_either_32 : decode m_M_either.2.1 32 = .ok (.istore_n 1, 1) := by decide +kernel
theorem d_M_either_33 : decode m_M_either.2.1 33 = .ok (.goto (-28), 3) := by decide +kernel
theorem d_M_either_27 : decode m_M_either.2.1 27 = .ok (.iconst 1, 1) := by decide +kernel
theorem d_M_either_28 : decode m_M_either.2.1 28 = .ok (.goto (4), 3) := by decide +kernel
theorem d_M_one_0 : decode m_M_one.2.1 0 = .ok (.aload_n 0, 1) := by decide +kernel
theorem d_M_one_1 : decode m_M_one.2.1 1 = .ok (.getfield 150, 3) := by decide +kernel
theorem d_M_one_4 : decode m_M_one.2.1 4 = .ok (.ifCond .lt (5), 3) := by decide +kernel
theorem d_M_one_9 : decode m_M_one.2.1 9 = .ok (.aload_n 0, 1) := by decide +kernel
theorem d_M_one_10 : decode m_M_one.2.1 10 = .ok (.invokevirtual 153, 3) := by decide +kernel
theorem d_M_one_13 : decode m_M_one.2.1 13 = .ok (.istore_n 1, 1) := by decide +kernel
theorem d_M_one_14 : decode m_M_one.2.1 14 = .ok (.iload_n 1, 1) := by decide +kernel
theorem d_M_one_15 : decode m_M_one.2.1 15 = .ok (.bipush (33), 2) := by decide +kernel
theorem d_M_one_17 : decode m_M_one.2.1 17 = .ok (.if_icmp .eq (15), 3) := by decide +kernel
theorem d_M_one_32 : decode m_M_one.2.1 32 = .ok (.aload_n 0, 1) := by decide +kernel
theorem d_M_one_33 : decode m_M_one.2.1 33 = .ok (.getfield 175, 3) := by decide +kernel
theorem d_M_one_36 : decode m_M_one.2.1 36 = .ok (.bipush (6), 2) := by decide +kernel
theorem d_M_one_38 : decode m_M_one.2.1 38 = .ok (.if_icmp .ne (8), 3) := by decide +kernel
theorem d_M_one_41 : decode m_M_one.2.1 41 = .ok (.aload_n 0, 1) := by decide +kernel
theorem d_M_one_42 : decode m_M_one.2.1 42 = .ok (.invokevirtual 178, 3) := by decide +kernel
theorem d_M_one_45 : decode m_M_one.2.1 45 = .ok (.ireturn, 1) := by decide +kernel
theorem d_M_one_46 : decode m_M_one.2.1 46 = .ok (.aload_n 0, 1) := by decide +kernel
theorem d_M_one_47 : decode m_M_one.2.1 47 = .ok (.dup, 1) := by decide +kernel
theorem d_M_one_48 : decode m_M_one.2.1 48 = .ok (.getfield 175, 3) := by decide +kernel
theorem d_M_one_51 : decode m_M_one.2.1 51 = .ok (.iconst 1, 1) := by decide +kernel
theorem d_M_one_52 : decode m_M_one.2.1 52 = .ok (.iadd, 1) := by decide +kernel
theorem d_M_one_53 : decode m_M_one.2.1 53 = .ok (.putfield 175, 3) := by decide +kernel
theorem d_M_one_56 : decode m_M_one.2.1 56 = .ok (.aload_n 0, 1) := by decide +kernel
theorem d_M_one_57 : decode m_M_one.2.1 57 = .ok (.dup, 1) := by decide +kernel
theorem d_M_one_58 : decode m_M_one.2.1 58 = .ok (.getfield 141, 3) := by decide +kernel
theorem d_M_one_61 : decode m_M_one.2.1 61 = .ok (.iconst 1, 1) := by decide +kernel
theorem d_M_one_62 : decode m_M_one.2.1 62 = .ok (.iadd, 1) := by decide +kernel
theorem d_M_one_63 : decode m_M_one.2.1 63 = .ok (.putfield 141, 3) := by decide +kernel
theorem d_M_one_66 : decode m_M_one.2.1 66 = .ok (.iload_n 1, 1) := by decide +kernel
theorem d_M_one_67 : decode m_M_one.2.1 67 = .ok (.bipush (40), 2) := by decide +kernel
theorem d_M_one_69 : decode m_M_one.2.1 69 = .ok (.if_icmp .ne (10), 3) := by decide +kernel
theorem d_M_one_72 : decode m_M_one.2.1 72 = .ok (.aload_n 0, 1) := by decide +kernel
theorem d_M_one_73 : decode m_M_one.2.1 73 = .ok (.invokevirtual 181, 3) := by decide +kernel
theorem d_M_one_76 : decode m_M_one.2.1 76 = .ok (.goto (7), 3) := by decide +kernel
theorem d_M_one_83 : decode m_M_one.2.1 83 = .ok (.istore_n 2, 1) := by decide +kernel
theorem d_M_one_84 : decode m_M_one.2.1 84 = .ok (.iload_n 1, 1) := by decide +kernel
theorem d_M_one_85 : decode m_M_one.2.1 85 = .ok (.bipush (40), 2) := by decide +kernel
theorem d_M_one_87 : decode m_M_one.2.1 87 = .ok (.if_icmp .ne (17), 3) := by decide +kernel
theorem d_M_one_90 : decode m_M_one.2.1 90 = .ok (.aload_n 0, 1) := by decide +kernel
theorem d_M_one_91 : decode m_M_one.2.1 91 = .ok (.bipush (41), 2) := by decide +kernel
theorem d_M_one_93 : decode m_M_one.2.1 93 = .ok (.invokevirtual 160, 3) := by decide +kernel
theorem d_M_one_96 : decode m_M_one.2.1 96 = .ok (.ifCond .ne (8), 3) := by decide +kernel
theorem d_M_one_99 : decode m_M_one.2.1 99 = .ok (.aload_n 0, 1) := by decide +kernel
theorem d_M_one_100 : decode m_M_one.2.1 100 = .ok (.invokevirtual 178, 3) := by decide +kernel
theorem d_M_one_103 : decode m_M_one.2.1 103 = .ok (.ireturn, 1) := by decide +kernel
theorem d_M_one_104 : decode m_M_one.2.1 104 = .ok (.aload_n 0, 1) := by decide +kernel
theorem d_M_one_105 : decode m_M_one.2.1 105 = .ok (.dup, 1) := by decide +kernel
theorem d_M_one_106 : decode m_M_one.2.1 106 = .ok (.getfield 175, 3) := by decide +kernel
theorem d_M_one_109 : decode m_M_one.2.1 109 = .ok (.iconst 1, 1) := by decide +kernel
theorem d_M_one_110 : decode m_M_one.2.1 110 = .ok (.isub, 1) := by decide +kernel
theorem d_M_one_111 : decode m_M_one.2.1 111 = .ok (.putfield 175, 3) := by decide +kernel
theorem d_M_one_114 : decode m_M_one.2.1 114 = .ok (.iload_n 1, 1) := by decide +kernel
theorem d_M_one_115 : decode m_M_one.2.1 115 = .ok (.bipush (40), 2) := by decide +kernel
theorem d_M_one_117 : decode m_M_one.2.1 117 = .ok (.if_icmp .ne (7), 3) := by decide +kernel
theorem d_M_one_120 : decode m_M_one.2.1 120 = .ok (.iload_n 2, 1) := by decide +kernel
theorem d_M_one_121 : decode m_M_one.2.1 121 = .ok (.goto (23), 3) := by decide +kernel
theorem d_M_one_144 : decode m_M_one.2.1 144 = .ok (.ireturn, 1) := by decide +kernel
theorem d_M_one_124 : decode m_M_one.2.1 124 = .ok (.iload_n 1, 1) := by decide +kernel
theorem d_M_one_125 : decode m_M_one.2.1 125 = .ok (.bipush (45), 2) := by decide +kernel
theorem d_M_one_127 : decode m_M_one.2.1 127 = .ok (.if_icmp .ne (8), 3) := by decide +kernel
theorem d_M_one_130 : decode m_M_one.2.1 130 = .ok (.iload_n 2, 1) := by decide +kernel
theorem d_M_one_131 : decode m_M_one.2.1 131 = .ok (.ineg, 1) := by decide +kernel
theorem d_M_one_132 : decode m_M_one.2.1 132 = .ok (.goto (12), 3) := by decide +kernel
theorem d_M_one_135 : decode m_M_one.2.1 135 = .ok (.iload_n 2, 1) := by decide +kernel
theorem d_M_one_136 : decode m_M_one.2.1 136 = .ok (.ifCond .ne (7), 3) := by decide +kernel
theorem d_M_one_139 : decode m_M_one.2.1 139 = .ok (.iconst 1, 1) := by decide +kernel
theorem d_M_one_140 : decode m_M_one.2.1 140 = .ok (.goto (4), 3) := by decide +kernel
theorem d_M_one_143 : decode m_M_one.2.1 143 = .ok (.iconst 0, 1) := by decide +kernel
theorem d_M_one_79 : decode m_M_one.2.1 79 = .ok (.aload_n 0, 1) := by decide +kernel
theorem d_M_one_80 : decode m_M_one.2.1 80 = .ok (.invokevirtual 172, 3) := by decide +kernel
theorem d_M_one_20 : decode m_M_one.2.1 20 = .ok (.iload_n 1, 1) := by decide +kernel
theorem d_M_one_21 : decode m_M_one.2.1 21 = .ok (.bipush (45), 2) := by decide +kernel
theorem d_M_one_23 : decode m_M_one.2.1 23 = .ok (.if_icmp .eq (9), 3) := by decide +kernel
theorem d_M_one_26 : decode m_M_one.2.1 26 = .ok (.iload_n 1, 1) := by decide +kernel
theorem d_M_one_27 : decode m_M_one.2.1 27 = .ok (.bipush (40), 2) := by decide +kernel
theorem d_M_one_29 : decode m_M_one.2.1 29 = .ok (.if_icmp .ne (116), 3) := by decide +kernel
theorem d_M_one_145 : decode m_M_one.2.1 145 = .ok (.iload_n 1, 1) := by decide +kernel
theorem d_M_one_146 : decode m_M_one.2.1 146 = .ok (.invokestatic 184, 3) := by decide +kernel
theorem d_M_one_149 : decode m_M_one.2.1 149 = .ok (.istore_n 2, 1) := by decide +kernel
theorem d_M_one_150 : decode m_M_one.2.1 150 = .ok (.iload_n 2, 1) := by decide +kernel
theorem d_M_one_151 : decode m_M_one.2.1 151 = .ok (.ifCond .lt (20), 3) := by decide +kernel
theorem d_M_one_171 : decode m_M_one.2.1 171 = .ok (.iconst 0, 1) := by decide +kernel
theorem d_M_one_172 : decode m_M_one.2.1 172 = .ok (.istore_n 3, 1) := by decide +kernel
theorem d_M_one_173 : decode m_M_one.2.1 173 = .ok (.iconst 0, 1) := by decide +kernel
theorem d_M_one_174 : decode m_M_one.2.1 174 = .ok (.istore 4, 2) := by decide +kernel
theorem d_M_one_176 : decode m_M_one.2.1 176 = .ok (.iload 4, 2) := by decide +kernel
theorem d_M_one_178 : decode m_M_one.2.1 178 = .ok (.iconst 4, 1) := by decide +kernel
theorem d_M_one_179 : decode m_M_one.2.1 179 = .ok (.if_icmp .ge (50), 3) := by decide +kernel
theorem d_M_one_229 : decode m_M_one.2.1 229 = .ok (.iload 4, 2) := by decide +kernel
theorem d_M_one_231 : decode m_M_one.2.1 231 = .ok (.ifCond .ne (10), 3) := by decide +kernel
theorem d_M_one_234 : decode m_M_one.2.1 234 = .ok (.aload_n 0, 1) := by decide +kernel
theorem d_M_one_235 : decode m_M_one.2.1 235 = .ok (.invokevirtual 178, 3) := by decide +kernel
theorem d_M_one_238 : decode m_M_one.2.1 238 = .ok (.goto (4), 3) := by decide +kernel
theorem d_M_one_242 : decode m_M_one.2.1 242 = .ok (.ireturn, 1) := by decide +kernel
theorem d_M_one_241 : decode m_M_one.2.1 241 = .ok (.iload_n 3, 1) := by decide +kernel
theorem d_M_one_182 : decode m_M_one.2.1 182 = .ok (.aload_n 0, 1) := by decide +kernel
theorem d_M_one_183 : decode m_M_one.2.1 183 = .ok (.invokevirtual 153, 3) := by decide +kernel
theorem d_M_one_186 : decode m_M_one.2.1 186 = .ok (.bipush (48), 2) := by decide +kernel
theorem d_M_one_188 : decode m_M_one.2.1 188 = .ok (.if_icmp .lt (41), 3) := by decide +kernel
theorem d_M_one_191 : decode m_M_one.2.1 191 = .ok (.aload_n 0, 1) := by decide +kernel
theorem d_M_one_192 : decode m_M_one.2.1 192 = .ok (.invokevirtual 153, 3) := by decide +kernel
theorem d_M_one_195 : decode m_M_one.2.1 195 = .ok (.bipush (57), 2) := by decide +kernel
theorem d_M_one_197 : decode m_M_one.2.1 197 = .ok (.if_icmp .gt (32), 3) := by decide +kernel
theorem d_M_one_200 : decode m_M_one.2.1 200 = .ok (.bipush (10), 2) := by decide +kernel
theorem d_M_one_202 : decode m_M_one.2.1 202 = .ok (.iload_n 3, 1) := by decide +kernel
theorem d_M_one_203 : decode m_M_one.2.1 203 = .ok (.imul, 1) := by decide +kernel
theorem d_M_one_204 : decode m_M_one.2.1 204 = .ok (.aload_n 0, 1) := by decide +kernel
theorem d_M_one_205 : decode m_M_one.2.1 205 = .ok (.invokevirtual 153, 3) := by decide +kernel
theorem d_M_one_208 : decode m_M_one.2.1 208 = .ok (.iadd, 1) := by decide +kernel
theorem d_M_one_209 : decode m_M_one.2.1 209 = .ok (.bipush (48), 2) := by decide +kernel
theorem d_M_one_211 : decode m_M_one.2.1 211 = .ok (.isub, 1) := by decide +kernel
theorem d_M_one_212 : decode m_M_one.2.1 212 = .ok (.istore_n 3, 1) := by decide +kernel
theorem d_M_one_213 : decode m_M_one.2.1 213 = .ok (.iinc 4 (1), 3) := by decide +kernel
theorem d_M_one_216 : decode m_M_one.2.1 216 = .ok (.aload_n 0, 1) := by decide +kernel
theorem d_M_one_217 : decode m_M_one.2.1 217 = .ok (.dup, 1) := by decide +kernel
theorem d_M_one_218 : decode m_M_one.2.1 218 = .ok (.getfield 141, 3) := by decide +kernel
theorem d_M_one_221 : decode m_M_one.2.1 221 = .ok (.iconst 1, 1) := by decide +kernel
theorem d_M_one_222 : decode m_M_one.2.1 222 = .ok (.iadd, 1) := by decide +kernel
theorem d_M_one_223 : decode m_M_one.2.1 223 = .ok (.putfield 141, 3) := by decide +kernel
theorem d_M_one_226 : decode m_M_one.2.1 226 = .ok (.goto (-50), 3) := by decide +kernel
theorem d_M_one_154 : decode m_M_one.2.1 154 = .ok (.aload_n 0, 1) := by decide +kernel
theorem d_M_one_155 : decode m_M_one.2.1 155 = .ok (.dup, 1) := by decide +kernel
theorem d_M_one_156 : decode m_M_one.2.1 156 = .ok (.getfield 141, 3) := by decide +kernel
theorem d_M_one_159 : decode m_M_one.2.1 159 = .ok (.iconst 1, 1) := by decide +kernel
theorem d_M_one_160 : decode m_M_one.2.1 160 = .ok (.iadd, 1) := by decide +kernel
theorem d_M_one_161 : decode m_M_one.2.1 161 = .ok (.putfield 141, 3) := by decide +kernel
theorem d_M_one_164 : decode m_M_one.2.1 164 = .ok (.aload_n 0, 1) := by decide +kernel
theorem d_M_one_165 : decode m_M_one.2.1 165 = .ok (.getfield 28, 3) := by decide +kernel
theorem d_M_one_168 : decode m_M_one.2.1 168 = .ok (.iload_n 2, 1) := by decide +kernel
theorem d_M_one_169 : decode m_M_one.2.1 169 = .ok (.iaload, 1) := by decide +kernel
theorem d_M_one_170 : decode m_M_one.2.1 170 = .ok (.ireturn, 1) := by decide +kernel
theorem d_M_one_7 : decode m_M_one.2.1 7 = .ok (.iconst 0, 1) := by decide +kernel
theorem d_M_one_8 : decode m_M_one.2.1 8 = .ok (.ireturn, 1) := by decide +kernel
theorem d_M_workOut_0 : decode m_M_workOut.2.1 0 = .ok (.aload_n 0, 1) := by decide +kernel
theorem d_M_workOut_1 : decode m_M_workOut.2.1 1 = .ok (.iload_n 1, 1) := by decide +kernel
theorem d_M_workOut_2 : decode m_M_workOut.2.1 2 = .ok (.putfield 147, 3) := by decide +kernel
theorem d_M_workOut_5 : decode m_M_workOut.2.1 5 = .ok (.aload_n 0, 1) := by decide +kernel
theorem d_M_workOut_6 : decode m_M_workOut.2.1 6 = .ok (.iconst 0, 1) := by decide +kernel
theorem d_M_workOut_7 : decode m_M_workOut.2.1 7 = .ok (.putfield 141, 3) := by decide +kernel
theorem d_M_workOut_10 : decode m_M_workOut.2.1 10 = .ok (.aload_n 0, 1) := by decide +kernel
theorem d_M_workOut_11 : decode m_M_workOut.2.1 11 = .ok (.iload_n 2, 1) := by decide +kernel
theorem d_M_workOut_12 : decode m_M_workOut.2.1 12 = .ok (.putfield 144, 3) := by decide +kernel
theorem d_M_workOut_15 : decode m_M_workOut.2.1 15 = .ok (.aload_n 0, 1) := by decide +kernel
theorem d_M_workOut_16 : decode m_M_workOut.2.1 16 = .ok (.iconst (-1), 1) := by decide +kernel
theorem d_M_workOut_17 : decode m_M_workOut.2.1 17 = .ok (.putfield 150, 3) := by decide +kernel
theorem d_M_workOut_20 : decode m_M_workOut.2.1 20 = .ok (.aload_n 0, 1) := by decide +kernel
theorem d_M_workOut_21 : decode m_M_workOut.2.1 21 = .ok (.iconst 0, 1) := by decide +kernel
theorem d_M_workOut_22 : decode m_M_workOut.2.1 22 = .ok (.putfield 175, 3) := by decide +kernel
theorem d_M_workOut_25 : decode m_M_workOut.2.1 25 = .ok (.iconst 0, 1) := by decide +kernel
theorem d_M_workOut_26 : decode m_M_workOut.2.1 26 = .ok (.istore_n 3, 1) := by decide +kernel
theorem d_M_workOut_27 : decode m_M_workOut.2.1 27 = .ok (.iconst 0, 1) := by decide +kernel
theorem d_M_workOut_28 : decode m_M_workOut.2.1 28 = .ok (.istore 4, 2) := by decide +kernel
theorem d_M_workOut_30 : decode m_M_workOut.2.1 30 = .ok (.iconst 1, 1) := by decide +kernel
theorem d_M_workOut_31 : decode m_M_workOut.2.1 31 = .ok (.istore 5, 2) := by decide +kernel
theorem d_M_workOut_33 : decode m_M_workOut.2.1 33 = .ok (.iload 5, 2) := by decide +kernel
theorem d_M_workOut_35 : decode m_M_workOut.2.1 35 = .ok (.ifCond .eq (72), 3) := by decide +kernel
theorem d_M_workOut_107 : decode m_M_workOut.2.1 107 = .ok (.aload_n 0, 1) := by decide +kernel
theorem d_M_workOut_108 : decode m_M_workOut.2.1 108 = .ok (.getfield 150, 3) := by decide +kernel
theorem d_M_workOut_111 : decode m_M_workOut.2.1 111 = .ok (.ifCond .ge (19), 3) := by decide +kernel
theorem d_M_workOut_130 : decode m_M_workOut.2.1 130 = .ok (.iload 4, 2) := by decide +kernel
theorem d_M_workOut_132 : decode m_M_workOut.2.1 132 = .ok (.ireturn, 1) := by decide +kernel
theorem d_M_workOut_114 : decode m_M_workOut.2.1 114 = .ok (.aload_n 0, 1) := by decide +kernel
theorem d_M_workOut_115 : decode m_M_workOut.2.1 115 = .ok (.getfield 141, 3) := by decide +kernel
theorem d_M_workOut_118 : decode m_M_workOut.2.1 118 = .ok (.aload_n 0, 1) := by decide +kernel
theorem d_M_workOut_119 : decode m_M_workOut.2.1 119 = .ok (.getfield 144, 3) := by decide +kernel
theorem d_M_workOut_122 : decode m_M_workOut.2.1 122 = .ok (.if_icmp .ge (8), 3) := by decide +kernel
theorem d_M_workOut_125 : decode m_M_workOut.2.1 125 = .ok (.aload_n 0, 1) := by decide +kernel
theorem d_M_workOut_126 : decode m_M_workOut.2.1 126 = .ok (.invokevirtual 178, 3) := by decide +kernel
theorem d_M_workOut_129 : decode m_M_workOut.2.1 129 = .ok (.ireturn, 1) := by decide +kernel
theorem d_M_workOut_38 : decode m_M_workOut.2.1 38 = .ok (.aload_n 0, 1) := by decide +kernel
theorem d_M_workOut_39 : decode m_M_workOut.2.1 39 = .ok (.invokevirtual 181, 3) := by decide +kernel
theorem d_M_workOut_42 : decode m_M_workOut.2.1 42 = .ok (.istore 6, 2) := by decide +kernel
theorem d_M_workOut_44 : decode m_M_workOut.2.1 44 = .ok (.iconst 1, 1) := by decide +kernel
theorem d_M_workOut_45 : decode m_M_workOut.2.1 45 = .ok (.istore 7, 2) := by decide +kernel
theorem d_M_workOut_47 : decode m_M_workOut.2.1 47 = .ok (.aload_n 0, 1) := by decide +kernel
theorem d_M_workOut_48 : decode m_M_workOut.2.1 48 = .ok (.bipush (63), 2) := by decide +kernel
theorem d_M_workOut_50 : decode m_M_workOut.2.1 50 = .ok (.invokevirtual 160, 3) := by decide +kernel
theorem d_M_workOut_53 : decode m_M_workOut.2.1 53 = .ok (.ifCond .eq (21), 3) := by decide +kernel
theorem d_M_workOut_74 : decode m_M_workOut.2.1 74 = .ok (.aload_n 0, 1) := by decide +kernel
theorem d_M_workOut_75 : decode m_M_workOut.2.1 75 = .ok (.getfield 150, 3) := by decide +kernel
theorem d_M_workOut_78 : decode m_M_workOut.2.1 78 = .ok (.ifCond .ge (18), 3) := by decide +kernel
theorem d_M_workOut_96 : decode m_M_workOut.2.1 96 = .ok (.aload_n 0, 1) := by decide +kernel
theorem d_M_workOut_97 : decode m_M_workOut.2.1 97 = .ok (.bipush (59), 2) := by decide +kernel
theorem d_M_workOut_99 : decode m_M_workOut.2.1 99 = .ok (.invokevirtual 160, 3) := by decide +kernel
theorem d_M_workOut_102 : decode m_M_workOut.2.1 102 = .ok (.istore 5, 2) := by decide +kernel
theorem d_M_workOut_104 : decode m_M_workOut.2.1 104 = .ok (.goto (-71), 3) := by decide +kernel
theorem d_M_workOut_81 : decode m_M_workOut.2.1 81 = .ok (.iload 7, 2) := by decide +kernel
theorem d_M_workOut_83 : decode m_M_workOut.2.1 83 = .ok (.ifCond .eq (13), 3) := by decide +kernel
theorem d_M_workOut_86 : decode m_M_workOut.2.1 86 = .ok (.iload_n 3, 1) := by decide +kernel
theorem d_M_workOut_87 : decode m_M_workOut.2.1 87 = .ok (.ifCond .ne (9), 3) := by decide +kernel
theorem d_M_workOut_90 : decode m_M_workOut.2.1 90 = .ok (.iconst 1, 1) := by decide +kernel
theorem d_M_workOut_91 : decode m_M_workOut.2.1 91 = .ok (.istore_n 3, 1) := by decide +kernel
theorem d_M_workOut_92 : decode m_M_workOut.2.1 92 = .ok (.iload 6, 2) := by decide +kernel
theorem d_M_workOut_94 : decode m_M_workOut.2.1 94 = .ok (.istore 4, 2) := by decide +kernel
theorem d_M_workOut_56 : decode m_M_workOut.2.1 56 = .ok (.iload 6, 2) := by decide +kernel
theorem d_M_workOut_58 : decode m_M_workOut.2.1 58 = .ok (.ifCond .eq (7), 3) := by decide +kernel
theorem d_M_workOut_65 : decode m_M_workOut.2.1 65 = .ok (.iconst 0, 1) := by decide +kernel
theorem d_M_workOut_66 : decode m_M_workOut.2.1 66 = .ok (.istore 7, 2) := by decide +kernel
theorem d_M_workOut_68 : decode m_M_workOut.2.1 68 = .ok (.aload_n 0, 1) := by decide +kernel
theorem d_M_workOut_69 : decode m_M_workOut.2.1 69 = .ok (.invokevirtual 181, 3) := by decide +kernel
theorem d_M_workOut_72 : decode m_M_workOut.2.1 72 = .ok (.istore 6, 2) := by decide +kernel
theorem d_M_workOut_61 : decode m_M_workOut.2.1 61 = .ok (.iconst 1, 1) := by decide +kernel
theorem d_M_workOut_62 : decode m_M_workOut.2.1 62 = .ok (.goto (4), 3) := by decide +kernel
theorem d_M_law_0 : decode m_M_law.2.1 0 = .ok (.aload_n 0, 1) := by decide +kernel
theorem d_M_law_1 : decode m_M_law.2.1 1 = .ok (.iconst (-1), 1) := by decide +kernel
theorem d_M_law_2 : decode m_M_law.2.1 2 = .ok (.aload_n 0, 1) := by decide +kernel
theorem d_M_law_3 : decode m_M_law.2.1 3 = .ok (.getfield 138, 3) := by decide +kernel
theorem d_M_law_6 : decode m_M_law.2.1 6 = .ok (.invokevirtual 188, 3) := by decide +kernel
theorem d_M_law_9 : decode m_M_law.2.1 9 = .ok (.istore_n 1, 1) := by decide +kernel
theorem d_M_law_10 : decode m_M_law.2.1 10 = .ok (.aload_n 0, 1) := by decide +kernel
theorem d_M_law_11 : decode m_M_law.2.1 11 = .ok (.getfield 138, 3) := by decide +kernel
theorem d_M_law_14 : decode m_M_law.2.1 14 = .ok (.istore_n 2, 1) := by decide +kernel
theorem d_M_law_15 : decode m_M_law.2.1 15 = .ok (.aload_n 0, 1) := by decide +kernel
theorem d_M_law_16 : decode m_M_law.2.1 16 = .ok (.iconst 0, 1) := by decide +kernel
theorem d_M_law_17 : decode m_M_law.2.1 17 = .ok (.putfield 138, 3) := by decide +kernel
theorem d_M_law_20 : decode m_M_law.2.1 20 = .ok (.aload_n 0, 1) := by decide +kernel
theorem d_M_law_21 : decode m_M_law.2.1 21 = .ok (.getfield 150, 3) := by decide +kernel
theorem d_M_law_24 : decode m_M_law.2.1 24 = .ok (.ifCond .lt (11), 3) := by decide +kernel
theorem d_M_law_35 : decode m_M_law.2.1 35 = .ok (.iconst 0, 1) := by decide +kernel
theorem d_M_law_36 : decode m_M_law.2.1 36 = .ok (.istore_n 3, 1) := by decide +kernel
theorem d_M_law_37 : decode m_M_law.2.1 37 = .ok (.iload_n 3, 1) := by decide +kernel
theorem d_M_law_38 : decode m_M_law.2.1 38 = .ok (.iload_n 2, 1) := by decide +kernel
theorem d_M_law_39 : decode m_M_law.2.1 39 = .ok (.if_icmp .ge (21), 3) := by decide +kernel
theorem d_M_law_60 : decode m_M_law.2.1 60 = .ok (.aload_n 0, 1) := by decide +kernel
theorem d_M_law_61 : decode m_M_law.2.1 61 = .ok (.iload_n 2, 1) := by decide +kernel
theorem d_M_law_62 : decode m_M_law.2.1 62 = .ok (.putfield 71, 3) := by decide +kernel
theorem d_M_law_65 : decode m_M_law.2.1 65 = .ok (.iconst 1, 1) := by decide +kernel
theorem d_M_law_66 : decode m_M_law.2.1 66 = .ok (.ireturn, 1) := by decide +kernel
theorem d_M_law_42 : decode m_M_law.2.1 42 = .ok (.aload_n 0, 1) := by decide +kernel
theorem d_M_law_43 : decode m_M_law.2.1 43 = .ok (.getfield 25, 3) := by decide +kernel
theorem d_M_law_46 : decode m_M_law.2.1 46 = .ok (.iload_n 3, 1) := by decide +kernel
theorem d_M_law_47 : decode m_M_law.2.1 47 = .ok (.aload_n 0, 1) := by decide +kernel
theorem d_M_law_48 : decode m_M_law.2.1 48 = .ok (.getfield 22, 3) := by decide +kernel
theorem d_M_law_51 : decode m_M_law.2.1 51 = .ok (.iload_n 3, 1) := by decide +kernel
theorem d_M_law_52 : decode m_M_law.2.1 52 = .ok (.iaload, 1) := by decide +kernel
theorem d_M_law_53 : decode m_M_law.2.1 53 = .ok (.iastore, 1) := by decide +kernel
theorem d_M_law_54 : decode m_M_law.2.1 54 = .ok (.iinc 3 (1), 3) := by decide +kernel
theorem d_M_law_57 : decode m_M_law.2.1 57 = .ok (.goto (-20), 3) := by decide +kernel
theorem d_M_law_27 : decode m_M_law.2.1 27 = .ok (.bipush (-100), 2) := by decide +kernel
theorem d_M_law_29 : decode m_M_law.2.1 29 = .ok (.aload_n 0, 1) := by decide +kernel
theorem d_M_law_30 : decode m_M_law.2.1 30 = .ok (.getfield 150, 3) := by decide +kernel
theorem d_M_law_33 : decode m_M_law.2.1 33 = .ok (.isub, 1) := by decide +kernel
theorem d_M_law_34 : decode m_M_law.2.1 34 = .ok (.ireturn, 1) := by decide +kernel
theorem d_M_saysBy_0 : decode m_M_saysBy.2.1 0 = .ok (.aload_n 0, 1) := by decide +kernel
theorem d_M_saysBy_1 : decode m_M_saysBy.2.1 1 = .ok (.getfield 9, 3) := by decide +kernel
theorem d_M_saysBy_4 : decode m_M_saysBy.2.1 4 = .ok (.bipush (30), 2) := by decide +kernel
theorem d_M_saysBy_6 : decode m_M_saysBy.2.1 6 = .ok (.iload_n 1, 1) := by decide +kernel
theorem d_M_saysBy_7 : decode m_M_saysBy.2.1 7 = .ok (.iadd, 1) := by decide +kernel
theorem d_M_saysBy_8 : decode m_M_saysBy.2.1 8 = .ok (.iaload, 1) := by decide +kernel
theorem d_M_saysBy_9 : decode m_M_saysBy.2.1 9 = .ok (.ifCond .lt (13), 3) := by decide +kernel
theorem d_M_saysBy_22 : decode m_M_saysBy.2.1 22 = .ok (.aload_n 0, 1) := by decide +kernel
theorem d_M_saysBy_23 : decode m_M_saysBy.2.1 23 = .ok (.getfield 9, 3) := by decide +kernel
theorem d_M_saysBy_26 : decode m_M_saysBy.2.1 26 = .ok (.bipush (10), 2) := by decide +kernel
theorem d_M_saysBy_28 : decode m_M_saysBy.2.1 28 = .ok (.iload_n 1, 1) := by decide +kernel
theorem d_M_saysBy_29 : decode m_M_saysBy.2.1 29 = .ok (.iadd, 1) := by decide +kernel
theorem d_M_saysBy_30 : decode m_M_saysBy.2.1 30 = .ok (.iaload, 1) := by decide +kernel
theorem d_M_saysBy_31 : decode m_M_saysBy.2.1 31 = .ok (.bipush (6), 2) := by decide +kernel
theorem d_M_saysBy_33 : decode m_M_saysBy.2.1 33 = .ok (.if_icmp .lt (7), 3) := by decide +kernel
theorem d_M_saysBy_40 : decode m_M_saysBy.2.1 40 = .ok (.iload_n 2, 1) := by decide +kernel
theorem d_M_saysBy_41 : decode m_M_saysBy.2.1 41 = .ok (.iconst 1, 1) := by decide +kernel
theorem d_M_saysBy_42 : decode m_M_saysBy.2.1 42 = .ok (.iadd, 1) := by decide +kernel
theorem d_M_saysBy_43 : decode m_M_saysBy.2.1 43 = .ok (.istore 4, 2) := by decide +kernel
theorem d_M_saysBy_45 : decode m_M_saysBy.2.1 45 = .ok (.aload_n 0, 1) := by decide +kernel
theorem d_M_saysBy_46 : decode m_M_saysBy.2.1 46 = .ok (.getfield 71, 3) := by decide +kernel
theorem d_M_saysBy_49 : decode m_M_saysBy.2.1 49 = .ok (.ifCond .lt (77), 3) := by decide +kernel
theorem d_M_saysBy_126 : decode m_M_saysBy.2.1 126 = .ok (.iload 4, 2) := by decide +kernel
theorem d_M_saysBy_128 : decode m_M_saysBy.2.1 128 = .ok (.ifCond .ge (7), 3) := by decide +kernel
theorem d_M_saysBy_135 : decode m_M_saysBy.2.1 135 = .ok (.iload 4, 2) := by decide +kernel
theorem d_M_saysBy_137 : decode m_M_saysBy.2.1 137 = .ok (.iconst 5, 1) := by decide +kernel
theorem d_M_saysBy_138 : decode m_M_saysBy.2.1 138 = .ok (.if_icmp .le (7), 3) := by decide +kernel
theorem d_M_saysBy_145 : decode m_M_saysBy.2.1 145 = .ok (.iload 4, 2) := by decide +kernel
theorem d_M_saysBy_147 : decode m_M_saysBy.2.1 147 = .ok (.ireturn, 1) := by decide +kernel
theorem d_M_saysBy_141 : decode m_M_saysBy.2.1 141 = .ok (.iconst 5, 1) := by decide +kernel
theorem d_M_saysBy_142 : decode m_M_saysBy.2.1 142 = .ok (.goto (5), 3) := by decide +kernel
theorem d_M_saysBy_131 : decode m_M_saysBy.2.1 131 = .ok (.iconst 0, 1) := by decide +kernel
theorem d_M_saysBy_132 : decode m_M_saysBy.2.1 132 = .ok (.goto (15), 3) := by decide +kernel
theorem d_M_saysBy_52 : decode m_M_saysBy.2.1 52 = .ok (.aload_n 0, 1) := by decide +kernel
theorem d_M_saysBy_53 : decode m_M_saysBy.2.1 53 = .ok (.getfield 28, 3) := by decide +kernel
theorem d_M_saysBy_56 : decode m_M_saysBy.2.1 56 = .ok (.iconst 0, 1) := by decide +kernel
theorem d_M_saysBy_57 : decode m_M_saysBy.2.1 57 = .ok (.iload_n 2, 1) := by decide +kernel
theorem d_M_saysBy_58 : decode m_M_saysBy.2.1 58 = .ok (.iastore, 1) := by decide +kernel
theorem d_M_saysBy_59 : decode m_M_saysBy.2.1 59 = .ok (.aload_n 0, 1) := by decide +kernel
theorem d_M_saysBy_60 : decode m_M_saysBy.2.1 60 = .ok (.getfield 28, 3) := by decide +kernel
theorem d_M_saysBy_63 : decode m_M_saysBy.2.1 63 = .ok (.iconst 1, 1) := by decide +kernel
theorem d_M_saysBy_64 : decode m_M_saysBy.2.1 64 = .ok (.aload_n 0, 1) := by decide +kernel
theorem d_M_saysBy_65 : decode m_M_saysBy.2.1 65 = .ok (.getfield 9, 3) := by decide +kernel
theorem d_M_saysBy_68 : decode m_M_saysBy.2.1 68 = .ok (.bipush (10), 2) := by decide +kernel
theorem d_M_saysBy_70 : decode m_M_saysBy.2.1 70 = .ok (.iload_n 1, 1) := by decide +kernel
theorem d_M_saysBy_71 : decode m_M_saysBy.2.1 71 = .ok (.iadd, 1) := by decide +kernel
theorem d_M_saysBy_72 : decode m_M_saysBy.2.1 72 = .ok (.iaload, 1) := by decide +kernel
theorem d_M_saysBy_73 : decode m_M_saysBy.2.1 73 = .ok (.iastore, 1) := by decide +kernel
theorem d_M_saysBy_74 : decode m_M_saysBy.2.1 74 = .ok (.aload_n 0, 1) := by decide +kernel
theorem d_M_saysBy_75 : decode m_M_saysBy.2.1 75 = .ok (.getfield 28, 3) := by decide +kernel
theorem d_M_saysBy_78 : decode m_M_saysBy.2.1 78 = .ok (.iconst 2, 1) := by decide +kernel
theorem d_M_saysBy_79 : decode m_M_saysBy.2.1 79 = .ok (.aload_n 0, 1) := by decide +kernel
theorem d_M_saysBy_80 : decode m_M_saysBy.2.1 80 = .ok (.getfield 9, 3) := by decide +kernel
theorem d_M_saysBy_83 : decode m_M_saysBy.2.1 83 = .ok (.iload_n 1, 1) := by decide +kernel
theorem d_M_saysBy_84 : decode m_M_saysBy.2.1 84 = .ok (.iaload, 1) := by decide +kernel
theorem d_M_saysBy_85 : decode m_M_saysBy.2.1 85 = .ok (.iastore, 1) := by decide +kernel
theorem d_M_saysBy_86 : decode m_M_saysBy.2.1 86 = .ok (.aload_n 0, 1) := by decide +kernel
theorem d_M_saysBy_87 : decode m_M_saysBy.2.1 87 = .ok (.getfield 28, 3) := by decide +kernel
theorem d_M_saysBy_90 : decode m_M_saysBy.2.1 90 = .ok (.iconst 3, 1) := by decide +kernel
theorem d_M_saysBy_91 : decode m_M_saysBy.2.1 91 = .ok (.aload_n 0, 1) := by decide +kernel
theorem d_M_saysBy_92 : decode m_M_saysBy.2.1 92 = .ok (.getfield 9, 3) := by decide +kernel
theorem d_M_saysBy_95 : decode m_M_saysBy.2.1 95 = .ok (.bipush (20), 2) := by decide +kernel
theorem d_M_saysBy_97 : decode m_M_saysBy.2.1 97 = .ok (.iload_n 1, 1) := by decide +kernel
theorem d_M_saysBy_98 : decode m_M_saysBy.2.1 98 = .ok (.iadd, 1) := by decide +kernel
theorem d_M_saysBy_99 : decode m_M_saysBy.2.1 99 = .ok (.iaload, 1) := by decide +kernel
theorem d_M_saysBy_100 : decode m_M_saysBy.2.1 100 = .ok (.iastore, 1) := by decide +kernel
theorem d_M_saysBy_101 : decode m_M_saysBy.2.1 101 = .ok (.aload_n 0, 1) := by decide +kernel
theorem d_M_saysBy_102 : decode m_M_saysBy.2.1 102 = .ok (.getfield 28, 3) := by decide +kernel
theorem d_M_saysBy_105 : decode m_M_saysBy.2.1 105 = .ok (.iconst 4, 1) := by decide +kernel
theorem d_M_saysBy_106 : decode m_M_saysBy.2.1 106 = .ok (.iload_n 3, 1) := by decide +kernel
theorem d_M_saysBy_107 : decode m_M_saysBy.2.1 107 = .ok (.iastore, 1) := by decide +kernel
theorem d_M_saysBy_108 : decode m_M_saysBy.2.1 108 = .ok (.aload_n 0, 1) := by decide +kernel
theorem d_M_saysBy_109 : decode m_M_saysBy.2.1 109 = .ok (.getfield 28, 3) := by decide +kernel
theorem d_M_saysBy_112 : decode m_M_saysBy.2.1 112 = .ok (.iconst 5, 1) := by decide +kernel
theorem d_M_saysBy_113 : decode m_M_saysBy.2.1 113 = .ok (.iload_n 1, 1) := by decide +kernel
theorem d_M_saysBy_114 : decode m_M_saysBy.2.1 114 = .ok (.iastore, 1) := by decide +kernel
theorem d_M_saysBy_115 : decode m_M_saysBy.2.1 115 = .ok (.aload_n 0, 1) := by decide +kernel
theorem d_M_saysBy_116 : decode m_M_saysBy.2.1 116 = .ok (.iconst 0, 1) := by decide +kernel
theorem d_M_saysBy_117 : decode m_M_saysBy.2.1 117 = .ok (.aload_n 0, 1) := by decide +kernel
theorem d_M_saysBy_118 : decode m_M_saysBy.2.1 118 = .ok (.getfield 71, 3) := by decide +kernel
theorem d_M_saysBy_121 : decode m_M_saysBy.2.1 121 = .ok (.invokevirtual 188, 3) := by decide +kernel
theorem d_M_saysBy_124 : decode m_M_saysBy.2.1 124 = .ok (.istore 4, 2) := by decide +kernel
theorem d_M_saysBy_36 : decode m_M_saysBy.2.1 36 = .ok (.iload_n 2, 1) := by decide +kernel
theorem d_M_saysBy_37 : decode m_M_saysBy.2.1 37 = .ok (.goto (6), 3) := by decide +kernel
theorem d_M_saysBy_12 : decode m_M_saysBy.2.1 12 = .ok (.aload_n 0, 1) := by decide +kernel
theorem d_M_saysBy_13 : decode m_M_saysBy.2.1 13 = .ok (.getfield 9, 3) := by decide +kernel
theorem d_M_saysBy_16 : decode m_M_saysBy.2.1 16 = .ok (.bipush (30), 2) := by decide +kernel
theorem d_M_saysBy_18 : decode m_M_saysBy.2.1 18 = .ok (.iload_n 1, 1) := by decide +kernel
theorem d_M_saysBy_19 : decode m_M_saysBy.2.1 19 = .ok (.iadd, 1) := by decide +kernel
theorem d_M_saysBy_20 : decode m_M_saysBy.2.1 20 = .ok (.iaload, 1) := by decide +kernel
theorem d_M_saysBy_21 : decode m_M_saysBy.2.1 21 = .ok (.ireturn, 1) := by decide +kernel
theorem d_M_allSay_0 : decode m_M_allSay.2.1 0 = .ok (.iconst 0, 1) := by decide +kernel
theorem d_M_allSay_1 : decode m_M_allSay.2.1 1 = .ok (.istore_n 3, 1) := by decide +kernel
theorem d_M_allSay_2 : decode m_M_allSay.2.1 2 = .ok (.iload_n 3, 1) := by decide +kernel
theorem d_M_allSay_3 : decode m_M_allSay.2.1 3 = .ok (.aload_n 0, 1) := by decide +kernel
theorem d_M_allSay_4 : decode m_M_allSay.2.1 4 = .ok (.getfield 81, 3) := by decide +kernel
theorem d_M_allSay_7 : decode m_M_allSay.2.1 7 = .ok (.if_icmp .ge (22), 3) := by decide +kernel
theorem d_M_allSay_29 : decode m_M_allSay.2.1 29 = .ok (.return_, 1) := by decide +kernel
theorem d_M_allSay_10 : decode m_M_allSay.2.1 10 = .ok (.aload_n 0, 1) := by decide +kernel
theorem d_M_allSay_11 : decode m_M_allSay.2.1 11 = .ok (.getfield 31, 3) := by decide +kernel
theorem d_M_allSay_14 : decode m_M_allSay.2.1 14 = .ok (.iload_n 3, 1) := by decide +kernel
theorem d_M_allSay_15 : decode m_M_allSay.2.1 15 = .ok (.aload_n 0, 1) := by decide +kernel
theorem d_M_allSay_16 : decode m_M_allSay.2.1 16 = .ok (.iload_n 3, 1) := by decide +kernel
theorem d_M_allSay_17 : decode m_M_allSay.2.1 17 = .ok (.iload_n 1, 1) := by decide +kernel
theorem d_M_allSay_18 : decode m_M_allSay.2.1 18 = .ok (.iload_n 2, 1) := by decide +kernel
theorem d_M_allSay_19 : decode m_M_allSay.2.1 19 = .ok (.invokevirtual 191, 3) := by decide +kernel
theorem d_M_allSay_22 : decode m_M_allSay.2.1 22 = .ok (.iastore, 1) := by decide +kernel
theorem d_M_allSay_23 : decode m_M_allSay.2.1 23 = .ok (.iinc 3 (1), 3) := by decide +kernel
theorem d_M_allSay_26 : decode m_M_allSay.2.1 26 = .ok (.goto (-24), 3) := by decide +kernel
theorem d_M_allSayNow_0 : decode m_M_allSayNow.2.1 0 = .ok (.aload_n 0, 1) := by decide +kernel
theorem d_M_allSayNow_1 : decode m_M_allSayNow.2.1 1 = .ok (.aload_n 0, 1) := by decide +kernel
theorem d_M_allSayNow_2 : decode m_M_allSayNow.2.1 2 = .ok (.getfield 9, 3) := by decide +kernel
theorem d_M_allSayNow_5 : decode m_M_allSayNow.2.1 5 = .ok (.bipush (40), 2) := by decide +kernel
theorem d_M_allSayNow_7 : decode m_M_allSayNow.2.1 7 = .ok (.iaload, 1) := by decide +kernel
theorem d_M_allSayNow_8 : decode m_M_allSayNow.2.1 8 = .ok (.aload_n 0, 1) := by decide +kernel
theorem d_M_allSayNow_9 : decode m_M_allSayNow.2.1 9 = .ok (.getfield 9, 3) := by decide +kernel
theorem d_M_allSayNow_12 : decode m_M_allSayNow.2.1 12 = .ok (.bipush (42), 2) := by decide +kernel
theorem d_M_allSayNow_14 : decode m_M_allSayNow.2.1 14 = .ok (.iaload, 1) := by decide +kernel
theorem d_M_allSayNow_15 : decode m_M_allSayNow.2.1 15 = .ok (.invokevirtual 195, 3) := by decide +kernel
theorem d_M_allSayNow_18 : decode m_M_allSayNow.2.1 18 = .ok (.return_, 1) := by decide +kernel
theorem d_M_agree_0 : decode m_M_agree.2.1 0 = .ok (.aload_n 0, 1) := by decide +kernel
theorem d_M_agree_1 : decode m_M_agree.2.1 1 = .ok (.getfield 31, 3) := by decide +kernel
theorem d_M_agree_4 : decode m_M_agree.2.1 4 = .ok (.iload_n 1, 1) := by decide +kernel
theorem d_M_agree_5 : decode m_M_agree.2.1 5 = .ok (.iaload, 1) := by decide +kernel
theorem d_M_agree_6 : decode m_M_agree.2.1 6 = .ok (.aload_n 0, 1) := by decide +kernel
theorem d_M_agree_7 : decode m_M_agree.2.1 7 = .ok (.getfield 31, 3) := by decide +kernel
theorem d_M_agree_10 : decode m_M_agree.2.1 10 = .ok (.iload_n 2, 1) := by decide +kernel
theorem d_M_agree_11 : decode m_M_agree.2.1 11 = .ok (.iaload, 1) := by decide +kernel
theorem d_M_agree_12 : decode m_M_agree.2.1 12 = .ok (.if_icmp .le (19), 3) := by decide +kernel
theorem d_M_agree_31 : decode m_M_agree.2.1 31 = .ok (.aload_n 0, 1) := by decide +kernel
theorem d_M_agree_32 : decode m_M_agree.2.1 32 = .ok (.getfield 31, 3) := by decide +kernel
theorem d_M_agree_35 : decode m_M_agree.2.1 35 = .ok (.iload_n 2, 1) := by decide +kernel
theorem d_M_agree_36 : decode m_M_agree.2.1 36 = .ok (.iaload, 1) := by decide +kernel
theorem d_M_agree_37 : decode m_M_agree.2.1 37 = .ok (.aload_n 0, 1) := by decide +kernel
theorem d_M_agree_38 : decode m_M_agree.2.1 38 = .ok (.getfield 31, 3) := by decide +kernel
theorem d_M_agree_41 : decode m_M_agree.2.1 41 = .ok (.iload_n 1, 1) := by decide +kernel
theorem d_M_agree_42 : decode m_M_agree.2.1 42 = .ok (.iaload, 1) := by decide +kernel
theorem d_M_agree_43 : decode m_M_agree.2.1 43 = .ok (.isub, 1) := by decide +kernel
theorem d_M_agree_44 : decode m_M_agree.2.1 44 = .ok (.istore_n 3, 1) := by decide +kernel
theorem d_M_agree_45 : decode m_M_agree.2.1 45 = .ok (.aload_n 0, 1) := by decide +kernel
theorem d_M_agree_46 : decode m_M_agree.2.1 46 = .ok (.getfield 9, 3) := by decide +kernel
theorem d_M_agree_49 : decode m_M_agree.2.1 49 = .ok (.iload_n 1, 1) := by decide +kernel
theorem d_M_agree_50 : decode m_M_agree.2.1 50 = .ok (.iaload, 1) := by decide +kernel
theorem d_M_agree_51 : decode m_M_agree.2.1 51 = .ok (.aload_n 0, 1) := by decide +kernel
theorem d_M_agree_52 : decode m_M_agree.2.1 52 = .ok (.getfield 9, 3) := by decide +kernel
theorem d_M_agree_55 : decode m_M_agree.2.1 55 = .ok (.iload_n 2, 1) := by decide +kernel
theorem d_M_agree_56 : decode m_M_agree.2.1 56 = .ok (.iaload, 1) := by decide +kernel
theorem d_M_agree_57 : decode m_M_agree.2.1 57 = .ok (.if_icmp .eq (18), 3) := by decide +kernel
theorem d_M_agree_75 : decode m_M_agree.2.1 75 = .ok (.iconst 0, 1) := by decide +kernel
theorem d_M_agree_76 : decode m_M_agree.2.1 76 = .ok (.ireturn, 1) := by decide +kernel
theorem d_M_agree_60 : decode m_M_agree.2.1 60 = .ok (.iload_n 3, 1) := by decide +kernel
theorem d_M_agree_61 : decode m_M_agree.2.1 61 = .ok (.aload_n 0, 1) := by decide +kernel
theorem d_M_agree_62 : decode m_M_agree.2.1 62 = .ok (.getfield 9, 3) := by decide +kernel
theorem d_M_agree_65 : decode m_M_agree.2.1 65 = .ok (.bipush (41), 2) := by decide +kernel
theorem d_M_agree_67 : decode m_M_agree.2.1 67 = .ok (.iaload, 1) := by decide +kernel
theorem d_M_agree_68 : decode m_M_agree.2.1 68 = .ok (.if_icmp .gt (7), 3) := by decide +kernel
theorem d_M_agree_71 : decode m_M_agree.2.1 71 = .ok (.iconst 1, 1) := by decide +kernel
theorem d_M_agree_72 : decode m_M_agree.2.1 72 = .ok (.goto (4), 3) := by decide +kernel
theorem d_M_agree_15 : decode m_M_agree.2.1 15 = .ok (.aload_n 0, 1) := by decide +kernel
theorem d_M_agree_16 : decode m_M_agree.2.1 16 = .ok (.getfield 31, 3) := by decide +kernel
theorem d_M_agree_19 : decode m_M_agree.2.1 19 = .ok (.iload_n 1, 1) := by decide +kernel
theorem d_M_agree_20 : decode m_M_agree.2.1 20 = .ok (.iaload, 1) := by decide +kernel
theorem d_M_agree_21 : decode m_M_agree.2.1 21 = .ok (.aload_n 0, 1) := by decide +kernel
theorem d_M_agree_22 : decode m_M_agree.2.1 22 = .ok (.getfield 31, 3) := by decide +kernel
theorem d_M_agree_25 : decode m_M_agree.2.1 25 = .ok (.iload_n 2, 1) := by decide +kernel
theorem d_M_agree_26 : decode m_M_agree.2.1 26 = .ok (.iaload, 1) := by decide +kernel
theorem d_M_agree_27 : decode m_M_agree.2.1 27 = .ok (.isub, 1) := by decide +kernel
theorem d_M_agree_28 : decode m_M_agree.2.1 28 = .ok (.goto (16), 3) := by decide +kernel
theorem d_M_agreedOn_0 : decode m_M_agreedOn.2.1 0 = .ok (.aload_n 0, 1) := by decide +kernel
theorem d_M_agreedOn_1 : decode m_M_agreedOn.2.1 1 = .ok (.getfield 31, 3) := by decide +kernel
theorem d_M_agreedOn_4 : decode m_M_agreedOn.2.1 4 = .ok (.iload_n 1, 1) := by decide +kernel
theorem d_M_agreedOn_5 : decode m_M_agreedOn.2.1 5 = .ok (.iaload, 1) := by decide +kernel
theorem d_M_agreedOn_6 : decode m_M_agreedOn.2.1 6 = .ok (.aload_n 0, 1) := by decide +kernel
theorem d_M_agreedOn_7 : decode m_M_agreedOn.2.1 7 = .ok (.getfield 31, 3) := by decide +kernel
theorem d_M_agreedOn_10 : decode m_M_agreedOn.2.1 10 = .ok (.iload_n 2, 1) := by decide +kernel
theorem d_M_agreedOn_11 : decode m_M_agreedOn.2.1 11 = .ok (.iaload, 1) := by decide +kernel
theorem d_M_agreedOn_12 : decode m_M_agreedOn.2.1 12 = .ok (.if_icmp .ge (12), 3) := by decide +kernel
theorem d_M_agreedOn_24 : decode m_M_agreedOn.2.1 24 = .ok (.aload_n 0, 1) := by decide +kernel
theorem d_M_agreedOn_25 : decode m_M_agreedOn.2.1 25 = .ok (.getfield 31, 3) := by decide +kernel
theorem d_M_agreedOn_28 : decode m_M_agreedOn.2.1 28 = .ok (.iload_n 2, 1) := by decide +kernel
theorem d_M_agreedOn_29 : decode m_M_agreedOn.2.1 29 = .ok (.iaload, 1) := by decide +kernel
theorem d_M_agreedOn_30 : decode m_M_agreedOn.2.1 30 = .ok (.ireturn, 1) := by decide +kernel
theorem d_M_agreedOn_15 : decode m_M_agreedOn.2.1 15 = .ok (.aload_n 0, 1) := by decide +kernel
theorem d_M_agreedOn_16 : decode m_M_agreedOn.2.1 16 = .ok (.getfield 31, 3) := by decide +kernel
theorem d_M_agreedOn_19 : decode m_M_agreedOn.2.1 19 = .ok (.iload_n 1, 1) := by decide +kernel
theorem d_M_agreedOn_20 : decode m_M_agreedOn.2.1 20 = .ok (.iaload, 1) := by decide +kernel
theorem d_M_agreedOn_21 : decode m_M_agreedOn.2.1 21 = .ok (.goto (9), 3) := by decide +kernel
theorem d_M_happenedBy_0 : decode m_M_happenedBy.2.1 0 = .ok (.iconst 0, 1) := by decide +kernel
theorem d_M_happenedBy_1 : decode m_M_happenedBy.2.1 1 = .ok (.istore_n 2, 1) := by decide +kernel
theorem d_M_happenedBy_2 : decode m_M_happenedBy.2.1 2 = .ok (.iconst 0, 1) := by decide +kernel
theorem d_M_happenedBy_3 : decode m_M_happenedBy.2.1 3 = .ok (.istore_n 3, 1) := by decide +kernel
theorem d_M_happenedBy_4 : decode m_M_happenedBy.2.1 4 = .ok (.iload_n 3, 1) := by decide +kernel
theorem d_M_happenedBy_5 : decode m_M_happenedBy.2.1 5 = .ok (.aload_n 0, 1) := by decide +kernel
theorem d_M_happenedBy_6 : decode m_M_happenedBy.2.1 6 = .ok (.getfield 81, 3) := by decide +kernel
theorem d_M_happenedBy_9 : decode m_M_happenedBy.2.1 9 = .ok (.if_icmp .ge (67), 3) := by decide +kernel
theorem d_M_happenedBy_76 : decode m_M_happenedBy.2.1 76 = .ok (.iload_n 2, 1) := by decide +kernel
theorem d_M_happenedBy_77 : decode m_M_happenedBy.2.1 77 = .ok (.ireturn, 1) := by decide +kernel
theorem d_M_happenedBy_12 : decode m_M_happenedBy.2.1 12 = .ok (.iconst 0, 1) := by decide +kernel
theorem d_M_happenedBy_13 : decode m_M_happenedBy.2.1 13 = .ok (.istore 4, 2) := by decide +kernel
theorem d_M_happenedBy_15 : decode m_M_happenedBy.2.1 15 = .ok (.iload 4, 2) := by decide +kernel
theorem d_M_happenedBy_17 : decode m_M_happenedBy.2.1 17 = .ok (.iload_n 3, 1) := by decide +kernel
theorem d_M_happenedBy_18 : decode m_M_happenedBy.2.1 18 = .ok (.if_icmp .ge (52), 3) := by decide +kernel
theorem d_M_happenedBy_70 : decode m_M_happenedBy.2.1 70 = .ok (.iinc 3 (1), 3) := by decide +kernel
theorem d_M_happenedBy_73 : decode m_M_happenedBy.2.1 73 = .ok (.goto (-69), 3) := by decide +kernel
theorem d_M_happenedBy_21 : decode m_M_happenedBy.2.1 21 = .ok (.iload_n 2, 1) := by decide +kernel
theorem d_M_happenedBy_22 : decode m_M_happenedBy.2.1 22 = .ok (.iload_n 1, 1) := by decide +kernel
theorem d_M_happenedBy_23 : decode m_M_happenedBy.2.1 23 = .ok (.iload_n 3, 1) := by decide +kernel
theorem d_M_happenedBy_24 : decode m_M_happenedBy.2.1 24 = .ok (.invokestatic 199, 3) := by decide +kernel
theorem d_M_happenedBy_27 : decode m_M_happenedBy.2.1 27 = .ok (.ifCond .eq (34), 3) := by decide +kernel
theorem d_M_happenedBy_61 : decode m_M_happenedBy.2.1 61 = .ok (.iconst 0, 1) := by decide +kernel
theorem d_M_happenedBy_62 : decode m_M_happenedBy.2.1 62 = .ok (.ior, 1) := by decide +kernel
theorem d_M_happenedBy_63 : decode m_M_happenedBy.2.1 63 = .ok (.istore_n 2, 1) := by decide +kernel
theorem d_M_happenedBy_64 : decode m_M_happenedBy.2.1 64 = .ok (.iinc 4 (1), 3) := by decide +kernel
theorem d_M_happenedBy_67 : decode m_M_happenedBy.2.1 67 = .ok (.goto (-52), 3) := by decide +kernel
theorem d_M_happenedBy_30 : decode m_M_happenedBy.2.1 30 = .ok (.iload_n 1, 1) := by decide +kernel
theorem d_M_happenedBy_31 : decode m_M_happenedBy.2.1 31 = .ok (.iload 4, 2) := by decide +kernel
theorem d_M_happenedBy_33 : decode m_M_happenedBy.2.1 33 = .ok (.invokestatic 199, 3) := by decide +kernel
theorem d_M_happenedBy_36 : decode m_M_happenedBy.2.1 36 = .ok (.ifCond .eq (25), 3) := by decide +kernel
theorem d_M_happenedBy_39 : decode m_M_happenedBy.2.1 39 = .ok (.aload_n 0, 1) := by decide +kernel
theorem d_M_happenedBy_40 : decode m_M_happenedBy.2.1 40 = .ok (.iload_n 3, 1) := by decide +kernel
theorem d_M_happenedBy_41 : decode m_M_happenedBy.2.1 41 = .ok (.iload 4, 2) := by decide +kernel
theorem d_M_happenedBy_43 : decode m_M_happenedBy.2.1 43 = .ok (.invokevirtual 202, 3) := by decide +kernel
theorem d_M_happenedBy_46 : decode m_M_happenedBy.2.1 46 = .ok (.ifCond .eq (15), 3) := by decide +kernel
theorem d_M_happenedBy_49 : decode m_M_happenedBy.2.1 49 = .ok (.iconst 1, 1) := by decide +kernel
theorem d_M_happenedBy_50 : decode m_M_happenedBy.2.1 50 = .ok (.aload_n 0, 1) := by decide +kernel
theorem d_M_happenedBy_51 : decode m_M_happenedBy.2.1 51 = .ok (.iload_n 3, 1) := by decide +kernel
theorem d_M_happenedBy_52 : decode m_M_happenedBy.2.1 52 = .ok (.iload 4, 2) := by decide +kernel
theorem d_M_happenedBy_54 : decode m_M_happenedBy.2.1 54 = .ok (.invokevirtual 205, 3) := by decide +kernel
theorem d_M_happenedBy_57 : decode m_M_happenedBy.2.1 57 = .ok (.ishl, 1) := by decide +kernel
theorem d_M_happenedBy_58 : decode m_M_happenedBy.2.1 58 = .ok (.goto (4), 3) := by decide +kernel
theorem d_M_everybody_0 : decode m_M_everybody.2.1 0 = .ok (.iconst 1, 1) := by decide +kernel
theorem d_M_everybody_1 : decode m_M_everybody.2.1 1 = .ok (.aload_n 0, 1) := by decide +kernel
theorem d_M_everybody_2 : decode m_M_everybody.2.1 2 = .ok (.getfield 81, 3) := by decide +kernel
theorem d_M_everybody_5 : decode m_M_everybody.2.1 5 = .ok (.ishl, 1) := by decide +kernel
theorem d_M_everybody_6 : decode m_M_everybody.2.1 6 = .ok (.iconst 1, 1) := by decide +kernel
theorem d_M_everybody_7 : decode m_M_everybody.2.1 7 = .ok (.isub, 1) := by decide +kernel
theorem d_M_everybody_8 : decode m_M_everybody.2.1 8 = .ok (.ireturn, 1) := by decide +kernel
theorem d_M_says_0 : decode m_M_says.2.1 0 = .ok (.aload_n 0, 1) := by decide +kernel
theorem d_M_says_1 : decode m_M_says.2.1 1 = .ok (.iload_n 1, 1) := by decide +kernel
theorem d_M_says_2 : decode m_M_says.2.1 2 = .ok (.i2l, 1) := by decide +kernel
theorem d_M_says_3 : decode m_M_says.2.1 3 = .ok (.invokevirtual 111, 3) := by decide +kernel
theorem d_M_says_6 : decode m_M_says.2.1 6 = .ok (.ifCond .eq (25), 3) := by decide +kernel
theorem d_M_says_31 : decode m_M_says.2.1 31 = .ok (.iconst (-1), 1) := by decide +kernel
theorem d_M_says_32 : decode m_M_says.2.1 32 = .ok (.ireturn, 1) := by decide +kernel
theorem d_M_says_9 : decode m_M_says.2.1 9 = .ok (.aload_n 0, 1) := by decide +kernel
theorem d_M_says_10 : decode m_M_says.2.1 10 = .ok (.iload_n 1, 1) := by decide +kernel
theorem d_M_says_11 : decode m_M_says.2.1 11 = .ok (.aload_n 0, 1) := by decide +kernel
theorem d_M_says_12 : decode m_M_says.2.1 12 = .ok (.getfield 9, 3) := by decide +kernel
theorem d_M_says_15 : decode m_M_says.2.1 15 = .ok (.bipush (40), 2) := by decide +kernel
theorem d_M_says_17 : decode m_M_says.2.1 17 = .ok (.iaload, 1) := by decide +kernel
theorem d_M_says_18 : decode m_M_says.2.1 18 = .ok (.aload_n 0, 1) := by decide +kernel
theorem d_M_says_19 : decode m_M_says.2.1 19 = .ok (.getfield 9, 3) := by decide +kernel
theorem d_M_says_22 : decode m_M_says.2.1 22 = .ok (.bipush (42), 2) := by decide +kernel
theorem d_M_says_24 : decode m_M_says.2.1 24 = .ok (.iaload, 1) := by decide +kernel
theorem d_M_says_25 : decode m_M_says.2.1 25 = .ok (.invokevirtual 191, 3) := by decide +kernel
theorem d_M_says_28 : decode m_M_says.2.1 28 = .ok (.goto (4), 3) := by decide +kernel
theorem d_M_all_0 : decode m_M_all.2.1 0 = .ok (.iload_n 1, 1) := by decide +kernel
theorem d_M_all_1 : decode m_M_all.2.1 1 = .ok (.i2l, 1) := by decide +kernel
theorem d_M_all_2 : decode m_M_all.2.1 2 = .ok (.lconst 0, 1) := by decide +kernel
theorem d_M_all_3 : decode m_M_all.2.1 3 = .ok (.lconst 1, 1) := by decide +kernel
theorem d_M_all_4 : decode m_M_all.2.1 4 = .ok (.invokestatic 84, 3) := by decide +kernel
theorem d_M_all_7 : decode m_M_all.2.1 7 = .ok (.ifCond .ne (5), 3) := by decide +kernel
theorem d_M_all_10 : decode m_M_all.2.1 10 = .ok (.iconst (-1), 1) := by decide +kernel
theorem d_M_all_11 : decode m_M_all.2.1 11 = .ok (.ireturn, 1) := by decide +kernel
theorem d_M_all_12 : decode m_M_all.2.1 12 = .ok (.aload_n 0, 1) := by decide +kernel
theorem d_M_all_13 : decode m_M_all.2.1 13 = .ok (.invokevirtual 208, 3) := by decide +kernel
theorem d_M_all_16 : decode m_M_all.2.1 16 = .ok (.iconst 0, 1) := by decide +kernel
theorem d_M_all_17 : decode m_M_all.2.1 17 = .ok (.istore_n 2, 1) := by decide +kernel
theorem d_M_all_18 : decode m_M_all.2.1 18 = .ok (.iconst 0, 1) := by decide +kernel
theorem d_M_all_19 : decode m_M_all.2.1 19 = .ok (.istore_n 3, 1) := by decide +kernel
theorem d_M_all_20 : decode m_M_all.2.1 20 = .ok (.iload_n 3, 1) := by decide +kernel
theorem d_M_all_21 : decode m_M_all.2.1 21 = .ok (.aload_n 0, 1) := by decide +kernel
theorem d_M_all_22 : decode m_M_all.2.1 22 = .ok (.getfield 81, 3) := by decide +kernel
theorem d_M_all_25 : decode m_M_all.2.1 25 = .ok (.if_icmp .ge (42), 3) := by decide +kernel
theorem d_M_all_67 : decode m_M_all.2.1 67 = .ok (.iload_n 1, 1) := by decide +kernel
theorem d_M_all_68 : decode m_M_all.2.1 68 = .ok (.ifCond .ne (14), 3) := by decide +kernel
theorem d_M_all_71 : decode m_M_all.2.1 71 = .ok (.aload_n 0, 1) := by decide +kernel
theorem d_M_all_72 : decode m_M_all.2.1 72 = .ok (.aload_n 0, 1) := by decide +kernel
theorem d_M_all_73 : decode m_M_all.2.1 73 = .ok (.invokevirtual 211, 3) := by decide +kernel
theorem d_M_all_76 : decode m_M_all.2.1 76 = .ok (.invokevirtual 214, 3) := by decide +kernel
theorem d_M_all_79 : decode m_M_all.2.1 79 = .ok (.goto (4), 3) := by decide +kernel
theorem d_M_all_83 : decode m_M_all.2.1 83 = .ok (.ireturn, 1) := by decide +kernel
theorem d_M_all_82 : decode m_M_all.2.1 82 = .ok (.iload_n 2, 1) := by decide +kernel
theorem d_M_all_28 : decode m_M_all.2.1 28 = .ok (.iconst 0, 1) := by decide +kernel
theorem d_M_all_29 : decode m_M_all.2.1 29 = .ok (.istore 4, 2) := by decide +kernel
theorem d_M_all_31 : decode m_M_all.2.1 31 = .ok (.iload 4, 2) := by decide +kernel
theorem d_M_all_33 : decode m_M_all.2.1 33 = .ok (.iload_n 3, 1) := by decide +kernel
theorem d_M_all_34 : decode m_M_all.2.1 34 = .ok (.if_icmp .ge (27), 3) := by decide +kernel
theorem d_M_all_61 : decode m_M_all.2.1 61 = .ok (.iinc 3 (1), 3) := by decide +kernel
theorem d_M_all_64 : decode m_M_all.2.1 64 = .ok (.goto (-44), 3) := by decide +kernel
theorem d_M_all_37 : decode m_M_all.2.1 37 = .ok (.iload_n 2, 1) := by decide +kernel
theorem d_M_all_38 : decode m_M_all.2.1 38 = .ok (.aload_n 0, 1) := by decide +kernel
theorem d_M_all_39 : decode m_M_all.2.1 39 = .ok (.iload_n 3, 1) := by decide +kernel
theorem d_M_all_40 : decode m_M_all.2.1 40 = .ok (.iload 4, 2) := by decide +kernel
theorem d_M_all_42 : decode m_M_all.2.1 42 = .ok (.invokevirtual 202, 3) := by decide +kernel
theorem d_M_all_45 : decode m_M_all.2.1 45 = .ok (.ifCond .eq (7), 3) := by decide +kernel
theorem d_M_all_52 : decode m_M_all.2.1 52 = .ok (.iconst 0, 1) := by decide +kernel
theorem d_M_all_53 : decode m_M_all.2.1 53 = .ok (.iadd, 1) := by decide +kernel
theorem d_M_all_54 : decode m_M_all.2.1 54 = .ok (.istore_n 2, 1) := by decide +kernel
theorem d_M_all_55 : decode m_M_all.2.1 55 = .ok (.iinc 4 (1), 3) := by decide +kernel
theorem d_M_all_58 : decode m_M_all.2.1 58 = .ok (.goto (-27), 3) := by decide +kernel
theorem d_M_all_48 : decode m_M_all.2.1 48 = .ok (.iconst 1, 1) := by decide +kernel
theorem d_M_all_49 : decode m_M_all.2.1 49 = .ok (.goto (4), 3) := by decide +kernel
theorem d_M_saying_0 : decode m_M_saying.2.1 0 = .ok (.iload_n 1, 1) := by decide +kernel
theorem d_M_saying_1 : decode m_M_saying.2.1 1 = .ok (.i2l, 1) := by decide +kernel
theorem d_M_saying_2 : decode m_M_saying.2.1 2 = .ok (.invokestatic 119, 3) := by decide +kernel
theorem d_M_saying_5 : decode m_M_saying.2.1 5 = .ok (.ifCond .ne (5), 3) := by decide +kernel
theorem d_M_saying_8 : decode m_M_saying.2.1 8 = .ok (.iconst (-1), 1) := by decide +kernel
theorem d_M_saying_9 : decode m_M_saying.2.1 9 = .ok (.ireturn, 1) := by decide +kernel
theorem d_M_saying_10 : decode m_M_saying.2.1 10 = .ok (.aload_n 0, 1) := by decide +kernel
theorem d_M_saying_11 : decode m_M_saying.2.1 11 = .ok (.invokevirtual 208, 3) := by decide +kernel
theorem d_M_saying_14 : decode m_M_saying.2.1 14 = .ok (.iconst 0, 1) := by decide +kernel
theorem d_M_saying_15 : decode m_M_saying.2.1 15 = .ok (.istore_n 2, 1) := by decide +kernel
theorem d_M_saying_16 : decode m_M_saying.2.1 16 = .ok (.iconst 0, 1) := by decide +kernel
theorem d_M_saying_17 : decode m_M_saying.2.1 17 = .ok (.istore_n 3, 1) := by decide +kernel
theorem d_M_saying_18 : decode m_M_saying.2.1 18 = .ok (.iload_n 3, 1) := by decide +kernel
theorem d_M_saying_19 : decode m_M_saying.2.1 19 = .ok (.aload_n 0, 1) := by decide +kernel
theorem d_M_saying_20 : decode m_M_saying.2.1 20 = .ok (.getfield 81, 3) := by decide +kernel
theorem d_M_saying_23 : decode m_M_saying.2.1 23 = .ok (.if_icmp .ge (27), 3) := by decide +kernel
theorem d_M_saying_50 : decode m_M_saying.2.1 50 = .ok (.iload_n 2, 1) := by decide +kernel
theorem d_M_saying_51 : decode m_M_saying.2.1 51 = .ok (.ireturn, 1) := by decide +kernel
theorem d_M_saying_26 : decode m_M_saying.2.1 26 = .ok (.iload_n 2, 1) := by decide +kernel
theorem d_M_saying_27 : decode m_M_saying.2.1 27 = .ok (.aload_n 0, 1) := by decide +kernel
theorem d_M_saying_28 : decode m_M_saying.2.1 28 = .ok (.getfield 31, 3) := by decide +kernel
theorem d_M_saying_31 : decode m_M_saying.2.1 31 = .ok (.iload_n 3, 1) := by decide +kernel
theorem d_M_saying_32 : decode m_M_saying.2.1 32 = .ok (.iaload, 1) := by decide +kernel
theorem d_M_saying_33 : decode m_M_saying.2.1 33 = .ok (.iload_n 1, 1) := by decide +kernel
theorem d_M_saying_34 : decode m_M_saying.2.1 34 = .ok (.if_icmp .ne (7), 3) := by decide +kernel
theorem d_M_saying_37 : decode m_M_saying.2.1 37 = .ok (.iconst 1, 1) := by decide +kernel
theorem d_M_saying_38 : decode m_M_saying.2.1 38 = .ok (.goto (4), 3) := by decide +kernel
theorem d_M_saying_42 : decode m_M_saying.2.1 42 = .ok (.iadd, 1) := by decide +kernel
theorem d_M_saying_43 : decode m_M_saying.2.1 43 = .ok (.istore_n 2, 1) := by decide +kernel
theorem d_M_saying_44 : decode m_M_saying.2.1 44 = .ok (.iinc 3 (1), 3) := by decide +kernel
theorem d_M_saying_47 : decode m_M_saying.2.1 47 = .ok (.goto (-29), 3) := by decide +kernel
theorem d_M_saying_41 : decode m_M_saying.2.1 41 = .ok (.iconst 0, 1) := by decide +kernel
theorem d_M_bytesIs_0 : decode m_M_bytesIs.2.1 0 = .ok (.iload_n 1, 1) := by decide +kernel
theorem d_M_bytesIs_1 : decode m_M_bytesIs.2.1 1 = .ok (.invokestatic 103, 3) := by decide +kernel
theorem d_M_bytesIs_4 : decode m_M_bytesIs.2.1 4 = .ok (.ifCond .ne (7), 3) := by decide +kernel
theorem d_M_bytesIs_7 : decode m_M_bytesIs.2.1 7 = .ok (.iconst (-1), 1) := by decide +kernel
theorem d_M_bytesIs_8 : decode m_M_bytesIs.2.1 8 = .ok (.goto (34), 3) := by decide +kernel
theorem d_M_bytesIs_42 : decode m_M_bytesIs.2.1 42 = .ok (.ireturn, 1) := by decide +kernel
theorem d_M_bytesIs_11 : decode m_M_bytesIs.2.1 11 = .ok (.aload_n 0, 1) := by decide +kernel
theorem d_M_bytesIs_12 : decode m_M_bytesIs.2.1 12 = .ok (.getfield 58, 3) := by decide +kernel
theorem d_M_bytesIs_15 : decode m_M_bytesIs.2.1 15 = .ok (.iload_n 1, 1) := by decide +kernel
theorem d_M_bytesIs_16 : decode m_M_bytesIs.2.1 16 = .ok (.iaload, 1) := by decide +kernel
theorem d_M_bytesIs_17 : decode m_M_bytesIs.2.1 17 = .ok (.ifCond .ge (8), 3) := by decide +kernel
theorem d_M_bytesIs_25 : decode m_M_bytesIs.2.1 25 = .ok (.aload_n 0, 1) := by decide +kernel
theorem d_M_bytesIs_26 : decode m_M_bytesIs.2.1 26 = .ok (.getfield 58, 3) := by decide +kernel
theorem d_M_bytesIs_29 : decode m_M_bytesIs.2.1 29 = .ok (.iload_n 1, 1) := by decide +kernel
theorem d_M_bytesIs_30 : decode m_M_bytesIs.2.1 30 = .ok (.iaload, 1) := by decide +kernel
theorem d_M_bytesIs_31 : decode m_M_bytesIs.2.1 31 = .ok (.bipush (50), 2) := by decide +kernel
theorem d_M_bytesIs_33 : decode m_M_bytesIs.2.1 33 = .ok (.if_icmp .ne (7), 3) := by decide +kernel
theorem d_M_bytesIs_36 : decode m_M_bytesIs.2.1 36 = .ok (.iconst 1, 1) := by decide +kernel
theorem d_M_bytesIs_37 : decode m_M_bytesIs.2.1 37 = .ok (.goto (5), 3) := by decide +kernel
theorem d_M_bytesIs_40 : decode m_M_bytesIs.2.1 40 = .ok (.bipush (-12), 2) := by decide +kernel
theorem d_M_bytesIs_20 : decode m_M_bytesIs.2.1 20 = .ok (.bipush (-11), 2) := by decide +kernel
theorem d_M_bytesIs_22 : decode m_M_bytesIs.2.1 22 = .ok (.goto (20), 3) := by decide +kernel
theorem d_M_claimMany_0 : decode m_M_claimMany.2.1 0 = .ok (.iconst 0, 1) := by decide +kernel
theorem d_M_claimMany_1 : decode m_M_claimMany.2.1 1 = .ok (.istore_n 2, 1) := by decide +kernel
theorem d_M_claimMany_2 : decode m_M_claimMany.2.1 2 = .ok (.iload_n 2, 1) := by decide +kernel
theorem d_M_claimMany_3 : decode m_M_claimMany.2.1 3 = .ok (.bipush (40), 2) := by decide +kernel
theorem d_M_claimMany_5 : decode m_M_claimMany.2.1 5 = .ok (.if_icmp .ge (37), 3) := by decide +kernel
theorem d_M_claimMany_42 : decode m_M_claimMany.2.1 42 = .ok (.iload_n 2, 1) := by decide +kernel
theorem d_M_claimMany_43 : decode m_M_claimMany.2.1 43 = .ok (.ireturn, 1) := by decide +kernel
theorem d_M_claimMany_8 : decode m_M_claimMany.2.1 8 = .ok (.iload_n 2, 1) := by decide +kernel
theorem d_M_claimMany_9 : decode m_M_claimMany.2.1 9 = .ok (.aload_n 0, 1) := by decide +kernel
theorem d_M_claimMany_10 : decode m_M_claimMany.2.1 10 = .ok (.getfield 61, 3) := by decide +kernel
theorem d_M_claimMany_13 : decode m_M_claimMany.2.1 13 = .ok (.iload_n 1, 1) := by decide +kernel
theorem d_M_claimMany_14 : decode m_M_claimMany.2.1 14 = .ok (.iaload, 1) := by decide +kernel
theorem d_M_claimMany_15 : decode m_M_claimMany.2.1 15 = .ok (.if_icmp .ge (27), 3) := by decide +kernel
theorem d_M_claimMany_18 : decode m_M_claimMany.2.1 18 = .ok (.aload_n 0, 1) := by decide +kernel
theorem d_M_claimMany_19 : decode m_M_claimMany.2.1 19 = .ok (.aload_n 0, 1) := by decide +kernel
theorem d_M_claimMany_20 : decode m_M_claimMany.2.1 20 = .ok (.getfield 64, 3) := by decide +kernel
theorem d_M_claimMany_23 : decode m_M_claimMany.2.1 23 = .ok (.bipush (60), 2) := by decide +kernel
theorem d_M_claimMany_25 : decode m_M_claimMany.2.1 25 = .ok (.iload_n 1, 1) := by decide +kernel
theorem d_M_claimMany_26 : decode m_M_claimMany.2.1 26 = .ok (.imul, 1) := by decide +kernel
theorem d_M_claimMany_27 : decode m_M_claimMany.2.1 27 = .ok (.iload_n 2, 1) := by decide +kernel
theorem d_M_claimMany_28 : decode m_M_claimMany.2.1 28 = .ok (.iadd, 1) := by decide +kernel
theorem d_M_claimMany_29 : decode m_M_claimMany.2.1 29 = .ok (.laload, 1) := by decide +kernel
theorem d_M_claimMany_30 : decode m_M_claimMany.2.1 30 = .ok (.invokevirtual 111, 3) := by decide +kernel
theorem d_M_claimMany_33 : decode m_M_claimMany.2.1 33 = .ok (.ifCond .eq (9), 3) := by decide +kernel
theorem d_M_claimMany_36 : decode m_M_claimMany.2.1 36 = .ok (.iinc 2 (1), 3) := by decide +kernel
theorem d_M_claimMany_39 : decode m_M_claimMany.2.1 39 = .ok (.goto (-37), 3) := by decide +kernel
theorem d_M_cameBy_0 : decode m_M_cameBy.2.1 0 = .ok (.iconst 0, 1) := by decide +kernel
theorem d_M_cameBy_1 : decode m_M_cameBy.2.1 1 = .ok (.istore_n 3, 1) := by decide +kernel
theorem d_M_cameBy_2 : decode m_M_cameBy.2.1 2 = .ok (.iconst 0, 1) := by decide +kernel
theorem d_M_cameBy_3 : decode m_M_cameBy.2.1 3 = .ok (.istore 4, 2) := by decide +kernel
theorem d_M_cameBy_5 : decode m_M_cameBy.2.1 5 = .ok (.iload 4, 2) := by decide +kernel
theorem d_M_cameBy_7 : decode m_M_cameBy.2.1 7 = .ok (.iload_n 2, 1) := by decide +kernel
theorem d_M_cameBy_8 : decode m_M_cameBy.2.1 8 = .ok (.if_icmp .ge (37), 3) := by decide +kernel
theorem d_M_cameBy_45 : decode m_M_cameBy.2.1 45 = .ok (.iload_n 3, 1) := by decide +kernel
theorem d_M_cameBy_46 : decode m_M_cameBy.2.1 46 = .ok (.ireturn, 1) := by decide +kernel
theorem d_M_cameBy_11 : decode m_M_cameBy.2.1 11 = .ok (.iload 4, 2) := by decide +kernel
theorem d_M_cameBy_13 : decode m_M_cameBy.2.1 13 = .ok (.aload_n 0, 1) := by decide +kernel
theorem d_M_cameBy_14 : decode m_M_cameBy.2.1 14 = .ok (.iload_n 1, 1) := by decide +kernel
theorem d_M_cameBy_15 : decode m_M_cameBy.2.1 15 = .ok (.invokevirtual 217, 3) := by decide +kernel
theorem d_M_cameBy_18 : decode m_M_cameBy.2.1 18 = .ok (.if_icmp .ge (27), 3) := by decide +kernel
theorem d_M_cameBy_21 : decode m_M_cameBy.2.1 21 = .ok (.iload_n 3, 1) := by decide +kernel
theorem d_M_cameBy_22 : decode m_M_cameBy.2.1 22 = .ok (.iconst 1, 1) := by decide +kernel
theorem d_M_cameBy_23 : decode m_M_cameBy.2.1 23 = .ok (.aload_n 0, 1) := by decide +kernel
theorem d_M_cameBy_24 : decode m_M_cameBy.2.1 24 = .ok (.getfield 64, 3) := by decide +kernel
theorem d_M_cameBy_27 : decode m_M_cameBy.2.1 27 = .ok (.bipush (60), 2) := by decide +kernel
theorem d_M_cameBy_29 : decode m_M_cameBy.2.1 29 = .ok (.iload_n 1, 1) := by decide +kernel
theorem d_M_cameBy_30 : decode m_M_cameBy.2.1 30 = .ok (.imul, 1) := by decide +kernel
theorem d_M_cameBy_31 : decode m_M_cameBy.2.1 31 = .ok (.iload 4, 2) := by decide +kernel
theorem d_M_cameBy_33 : decode m_M_cameBy.2.1 33 = .ok (.iadd, 1) := by decide +kernel
theorem d_M_cameBy_34 : decode m_M_cameBy.2.1 34 = .ok (.laload, 1) := by decide +kernel
theorem d_M_cameBy_35 : decode m_M_cameBy.2.1 35 = .ok (.l2i, 1) := by decide +kernel
theorem d_M_cameBy_36 : decode m_M_cameBy.2.1 36 = .ok (.ishl, 1) := by decide +kernel
theorem d_M_cameBy_37 : decode m_M_cameBy.2.1 37 = .ok (.ior, 1) := by decide +kernel
theorem d_M_cameBy_38 : decode m_M_cameBy.2.1 38 = .ok (.istore_n 3, 1) := by decide +kernel
theorem d_M_cameBy_39 : decode m_M_cameBy.2.1 39 = .ok (.iinc 4 (1), 3) := by decide +kernel
theorem d_M_cameBy_42 : decode m_M_cameBy.2.1 42 = .ok (.goto (-37), 3) := by decide +kernel
theorem d_M_claims_0 : decode m_M_claims.2.1 0 = .ok (.aload_n 0, 1) := by decide +kernel
theorem d_M_claims_1 : decode m_M_claims.2.1 1 = .ok (.iload_n 1, 1) := by decide +kernel
theorem d_M_claims_2 : decode m_M_claims.2.1 2 = .ok (.invokevirtual 220, 3) := by decide +kernel
theorem d_M_claims_5 : decode m_M_claims.2.1 5 = .ok (.iconst (-1), 1) := by decide +kernel
theorem d_M_claims_6 : decode m_M_claims.2.1 6 = .ok (.if_icmp .eq (27), 3) := by decide +kernel
theorem d_M_claims_33 : decode m_M_claims.2.1 33 = .ok (.iconst (-1), 1) := by decide +kernel
theorem d_M_claims_34 : decode m_M_claims.2.1 34 = .ok (.ireturn, 1) := by decide +kernel
theorem d_M_claims_9 : decode m_M_claims.2.1 9 = .ok (.iload_n 2, 1) := by decide +kernel
theorem d_M_claims_10 : decode m_M_claims.2.1 10 = .ok (.i2l, 1) := by decide +kernel
theorem d_M_claims_11 : decode m_M_claims.2.1 11 = .ok (.lconst 0, 1) := by decide +kernel
theorem d_M_claims_12 : decode m_M_claims.2.1 12 = .ok (.ldc2_w 223, 3) := by decide +kernel
theorem d_M_claims_15 : decode m_M_claims.2.1 15 = .ok (.invokestatic 84, 3) := by decide +kernel
theorem d_M_claims_18 : decode m_M_claims.2.1 18 = .ok (.ifCond .eq (15), 3) := by decide +kernel
theorem d_M_claims_21 : decode m_M_claims.2.1 21 = .ok (.iload_n 3, 1) := by decide +kernel
theorem d_M_claims_22 : decode m_M_claims.2.1 22 = .ok (.i2l, 1) := by decide +kernel
theorem d_M_claims_23 : decode m_M_claims.2.1 23 = .ok (.lconst 0, 1) := by decide +kernel
theorem d_M_claims_24 : decode m_M_claims.2.1 24 = .ok (.ldc2_w 122, 3) := by decide +kernel
theorem d_M_claims_27 : decode m_M_claims.2.1 27 = .ok (.invokestatic 84, 3) := by decide +kernel
theorem d_M_claims_30 : decode m_M_claims.2.1 30 = .ok (.ifCond .ne (5), 3) := by decide +kernel
theorem d_M_claims_35 : decode m_M_claims.2.1 35 = .ok (.aload_n 0, 1) := by decide +kernel
theorem d_M_claims_36 : decode m_M_claims.2.1 36 = .ok (.iload_n 1, 1) := by decide +kernel
theorem d_M_claims_37 : decode m_M_claims.2.1 37 = .ok (.invokevirtual 220, 3) := by decide +kernel
theorem d_M_claims_40 : decode m_M_claims.2.1 40 = .ok (.ifCond .ge (9), 3) := by decide +kernel
theorem d_M_claims_49 : decode m_M_claims.2.1 49 = .ok (.aload_n 0, 1) := by decide +kernel
theorem d_M_claims_50 : decode m_M_claims.2.1 50 = .ok (.invokevirtual 208, 3) := by decide +kernel
theorem d_M_claims_53 : decode m_M_claims.2.1 53 = .ok (.iload_n 3, 1) := by decide +kernel
theorem d_M_claims_54 : decode m_M_claims.2.1 54 = .ok (.iconst 1, 1) := by decide +kernel
theorem d_M_claims_55 : decode m_M_claims.2.1 55 = .ok (.if_icmp .ne (40), 3) := by decide +kernel
theorem d_M_claims_58 : decode m_M_claims.2.1 58 = .ok (.iconst 0, 1) := by decide +kernel
theorem d_M_claims_59 : decode m_M_claims.2.1 59 = .ok (.istore 4, 2) := by decide +kernel
theorem d_M_claims_61 : decode m_M_claims.2.1 61 = .ok (.iload 4, 2) := by decide +kernel
theorem d_M_claims_63 : decode m_M_claims.2.1 63 = .ok (.iload_n 2, 1) := by decide +kernel
theorem d_M_claims_64 : decode m_M_claims.2.1 64 = .ok (.if_icmp .ge (28), 3) := by decide +kernel
theorem d_M_claims_92 : decode m_M_claims.2.1 92 = .ok (.bipush (-2), 2) := by decide +kernel
theorem d_M_claims_94 : decode m_M_claims.2.1 94 = .ok (.ireturn, 1) := by decide +kernel
theorem d_M_claims_67 : decode m_M_claims.2.1 67 = .ok (.aload_n 0, 1) := by decide +kernel
theorem d_M_claims_68 : decode m_M_claims.2.1 68 = .ok (.aload_n 0, 1) := by decide +kernel
theorem d_M_claims_69 : decode m_M_claims.2.1 69 = .ok (.iload_n 1, 1) := by decide +kernel
theorem d_M_claims_70 : decode m_M_claims.2.1 70 = .ok (.iload 4, 2) := by decide +kernel
theorem d_M_claims_72 : decode m_M_claims.2.1 72 = .ok (.iconst 1, 1) := by decide +kernel
theorem d_M_claims_73 : decode m_M_claims.2.1 73 = .ok (.iadd, 1) := by decide +kernel
theorem d_M_claims_74 : decode m_M_claims.2.1 74 = .ok (.invokevirtual 225, 3) := by decide +kernel
theorem d_M_claims_77 : decode m_M_claims.2.1 77 = .ok (.invokevirtual 214, 3) := by decide +kernel
theorem d_M_claims_80 : decode m_M_claims.2.1 80 = .ok (.ifCond .eq (6), 3) := by decide +kernel
theorem d_M_claims_86 : decode m_M_claims.2.1 86 = .ok (.iinc 4 (1), 3) := by decide +kernel
theorem d_M_claims_89 : decode m_M_claims.2.1 89 = .ok (.goto (-28), 3) := by decide +kernel
theorem d_M_claims_83 : decode m_M_claims.2.1 83 = .ok (.iload 4, 2) := by decide +kernel
theorem d_M_claims_85 : decode m_M_claims.2.1 85 = .ok (.ireturn, 1) := by decide +kernel
theorem d_M_claims_95 : decode m_M_claims.2.1 95 = .ok (.iload_n 3, 1) := by decide +kernel
theorem d_M_claims_96 : decode m_M_claims.2.1 96 = .ok (.ifCond .ne (16), 3) := by decide +kernel
theorem d_M_claims_99 : decode m_M_claims.2.1 99 = .ok (.aload_n 0, 1) := by decide +kernel
theorem d_M_claims_100 : decode m_M_claims.2.1 100 = .ok (.aload_n 0, 1) := by decide +kernel
theorem d_M_claims_101 : decode m_M_claims.2.1 101 = .ok (.iload_n 1, 1) := by decide +kernel
theorem d_M_claims_102 : decode m_M_claims.2.1 102 = .ok (.iload_n 2, 1) := by decide +kernel
theorem d_M_claims_103 : decode m_M_claims.2.1 103 = .ok (.invokevirtual 225, 3) := by decide +kernel
theorem d_M_claims_106 : decode m_M_claims.2.1 106 = .ok (.invokevirtual 214, 3) := by decide +kernel
theorem d_M_claims_109 : decode m_M_claims.2.1 109 = .ok (.goto (12), 3) := by decide +kernel
theorem d_M_claims_121 : decode m_M_claims.2.1 121 = .ok (.ireturn, 1) := by decide +kernel
theorem d_M_claims_112 : decode m_M_claims.2.1 112 = .ok (.aload_n 0, 1) := by decide +kernel
theorem d_M_claims_113 : decode m_M_claims.2.1 113 = .ok (.iload_n 1, 1) := by decide +kernel
theorem d_M_claims_114 : decode m_M_claims.2.1 114 = .ok (.iload_n 2, 1) := by decide +kernel
theorem d_M_claims_115 : decode m_M_claims.2.1 115 = .ok (.invokevirtual 225, 3) := by decide +kernel
theorem d_M_claims_118 : decode m_M_claims.2.1 118 = .ok (.invokestatic 228, 3) := by decide +kernel
theorem d_M_claims_43 : decode m_M_claims.2.1 43 = .ok (.aload_n 0, 1) := by decide +kernel
theorem d_M_claims_44 : decode m_M_claims.2.1 44 = .ok (.iload_n 1, 1) := by decide +kernel
theorem d_M_claims_45 : decode m_M_claims.2.1 45 = .ok (.invokevirtual 220, 3) := by decide +kernel
theorem d_M_claims_48 : decode m_M_claims.2.1 48 = .ok (.ireturn, 1) := by decide +kernel
theorem d_M_happens_0 : decode m_M_happens.2.1 0 = .ok (.aload_n 0, 1) := by decide +kernel
theorem d_M_happens_1 : decode m_M_happens.2.1 1 = .ok (.iload_n 1, 1) := by decide +kernel
theorem d_M_happens_2 : decode m_M_happens.2.1 2 = .ok (.invokevirtual 220, 3) := by decide +kernel
theorem d_M_happens_5 : decode m_M_happens.2.1 5 = .ok (.iconst (-1), 1) := by decide +kernel
theorem d_M_happens_6 : decode m_M_happens.2.1 6 = .ok (.if_icmp .eq (11), 3) := by decide +kernel
theorem d_M_happens_17 : decode m_M_happens.2.1 17 = .ok (.iconst (-1), 1) := by decide +kernel
theorem d_M_happens_18 : decode m_M_happens.2.1 18 = .ok (.ireturn, 1) := by decide +kernel
theorem d_M_happens_9 : decode m_M_happens.2.1 9 = .ok (.iload_n 2, 1) := by decide +kernel
theorem d_M_happens_10 : decode m_M_happens.2.1 10 = .ok (.i2l, 1) := by decide +kernel
theorem d_M_happens_11 : decode m_M_happens.2.1 11 = .ok (.invokestatic 119, 3) := by decide +kernel
theorem d_M_happens_14 : decode m_M_happens.2.1 14 = .ok (.ifCond .ne (5), 3) := by decide +kernel
theorem d_M_happens_19 : decode m_M_happens.2.1 19 = .ok (.aload_n 0, 1) := by decide +kernel
theorem d_M_happens_20 : decode m_M_happens.2.1 20 = .ok (.iload_n 1, 1) := by decide +kernel
theorem d_M_happens_21 : decode m_M_happens.2.1 21 = .ok (.invokevirtual 220, 3) := by decide +kernel
theorem d_M_happens_24 : decode m_M_happens.2.1 24 = .ok (.ifCond .ge (9), 3) := by decide +kernel
theorem d_M_happens_33 : decode m_M_happens.2.1 33 = .ok (.aload_n 0, 1) := by decide +kernel
theorem d_M_happens_34 : decode m_M_happens.2.1 34 = .ok (.invokevirtual 208, 3) := by decide +kernel
theorem d_M_happens_37 : decode m_M_happens.2.1 37 = .ok (.iconst 0, 1) := by decide +kernel
theorem d_M_happens_38 : decode m_M_happens.2.1 38 = .ok (.istore_n 3, 1) := by decide +kernel
theorem d_M_happens_39 : decode m_M_happens.2.1 39 = .ok (.iload_n 3, 1) := by decide +kernel
theorem d_M_happens_40 : decode m_M_happens.2.1 40 = .ok (.bipush (40), 2) := by decide +kernel
theorem d_M_happens_42 : decode m_M_happens.2.1 42 = .ok (.if_icmp .gt (28), 3) := by decide +kernel
theorem d_M_happens_70 : decode m_M_happens.2.1 70 = .ok (.bipush (-2), 2) := by decide +kernel
theorem d_M_happens_72 : decode m_M_happens.2.1 72 = .ok (.ireturn, 1) := by decide +kernel
theorem d_M_happens_45 : decode m_M_happens.2.1 45 = .ok (.aload_n 0, 1) := by decide +kernel
theorem d_M_happens_46 : decode m_M_happens.2.1 46 = .ok (.aload_n 0, 1) := by decide +kernel
theorem d_M_happens_47 : decode m_M_happens.2.1 47 = .ok (.iload_n 1, 1) := by decide +kernel
theorem d_M_happens_48 : decode m_M_happens.2.1 48 = .ok (.iload_n 3, 1) := by decide +kernel
theorem d_M_happens_49 : decode m_M_happens.2.1 49 = .ok (.invokevirtual 225, 3) := by decide +kernel
theorem d_M_happens_52 : decode m_M_happens.2.1 52 = .ok (.invokevirtual 214, 3) := by decide +kernel
theorem d_M_happens_55 : decode m_M_happens.2.1 55 = .ok (.iload_n 2, 1) := by decide +kernel
theorem d_M_happens_56 : decode m_M_happens.2.1 56 = .ok (.invokestatic 199, 3) := by decide +kernel
theorem d_M_happens_59 : decode m_M_happens.2.1 59 = .ok (.ifCond .eq (5), 3) := by decide +kernel
theorem d_M_happens_64 : decode m_M_happens.2.1 64 = .ok (.iinc 3 (1), 3) := by decide +kernel
theorem d_M_happens_67 : decode m_M_happens.2.1 67 = .ok (.goto (-28), 3) := by decide +kernel
theorem d_M_happens_62 : decode m_M_happens.2.1 62 = .ok (.iload_n 3, 1) := by decide +kernel
theorem d_M_happens_63 : decode m_M_happens.2.1 63 = .ok (.ireturn, 1) := by decide +kernel
theorem d_M_happens_27 : decode m_M_happens.2.1 27 = .ok (.aload_n 0, 1) := by decide +kernel
theorem d_M_happens_28 : decode m_M_happens.2.1 28 = .ok (.iload_n 1, 1) := by decide +kernel
theorem d_M_happens_29 : decode m_M_happens.2.1 29 = .ok (.invokevirtual 220, 3) := by decide +kernel
theorem d_M_happens_32 : decode m_M_happens.2.1 32 = .ok (.ireturn, 1) := by decide +kernel
theorem d_M_costOf_0 : decode m_M_costOf.2.1 0 = .ok (.aload_n 0, 1) := by decide +kernel
theorem d_M_costOf_1 : decode m_M_costOf.2.1 1 = .ok (.getfield 31, 3) := by decide +kernel
theorem d_M_costOf_4 : decode m_M_costOf.2.1 4 = .ok (.iload_n 1, 1) := by decide +kernel
theorem d_M_costOf_5 : decode m_M_costOf.2.1 5 = .ok (.iaload, 1) := by decide +kernel
theorem d_M_costOf_6 : decode m_M_costOf.2.1 6 = .ok (.iload_n 2, 1) := by decide +kernel
theorem d_M_costOf_7 : decode m_M_costOf.2.1 7 = .ok (.if_icmp .ne (7), 3) := by decide +kernel
theorem d_M_costOf_10 : decode m_M_costOf.2.1 10 = .ok (.iconst 0, 1) := by decide +kernel
theorem d_M_costOf_11 : decode m_M_costOf.2.1 11 = .ok (.goto (12), 3) := by decide +kernel
theorem d_M_costOf_23 : decode m_M_costOf.2.1 23 = .ok (.ireturn, 1) := by decide +kernel
theorem d_M_costOf_14 : decode m_M_costOf.2.1 14 = .ok (.aload_n 0, 1) := by decide +kernel
theorem d_M_costOf_15 : decode m_M_costOf.2.1 15 = .ok (.getfield 9, 3) := by decide +kernel
theorem d_M_costOf_18 : decode m_M_costOf.2.1 18 = .ok (.bipush (20), 2) := by decide +kernel
theorem d_M_costOf_20 : decode m_M_costOf.2.1 20 = .ok (.iload_n 1, 1) := by decide +kernel
theorem d_M_costOf_21 : decode m_M_costOf.2.1 21 = .ok (.iadd, 1) := by decide +kernel
theorem d_M_costOf_22 : decode m_M_costOf.2.1 22 = .ok (.iaload, 1) := by decide +kernel
theorem d_M_pay_0 : decode m_M_pay.2.1 0 = .ok (.iload_n 1, 1) := by decide +kernel
theorem d_M_pay_1 : decode m_M_pay.2.1 1 = .ok (.i2l, 1) := by decide +kernel
theorem d_M_pay_2 : decode m_M_pay.2.1 2 = .ok (.invokestatic 119, 3) := by decide +kernel
theorem d_M_pay_5 : decode m_M_pay.2.1 5 = .ok (.ifCond .eq (13), 3) := by decide +kernel
theorem d_M_pay_18 : decode m_M_pay.2.1 18 = .ok (.iconst (-1), 1) := by decide +kernel
theorem d_M_pay_19 : decode m_M_pay.2.1 19 = .ok (.ireturn, 1) := by decide +kernel
theorem d_M_pay_8 : decode m_M_pay.2.1 8 = .ok (.iload_n 2, 1) := by decide +kernel
theorem d_M_pay_9 : decode m_M_pay.2.1 9 = .ok (.i2l, 1) := by decide +kernel
theorem d_M_pay_10 : decode m_M_pay.2.1 10 = .ok (.lconst 0, 1) := by decide +kernel
theorem d_M_pay_11 : decode m_M_pay.2.1 11 = .ok (.lconst 1, 1) := by decide +kernel
theorem d_M_pay_12 : decode m_M_pay.2.1 12 = .ok (.invokestatic 84, 3) := by decide +kernel
theorem d_M_pay_15 : decode m_M_pay.2.1 15 = .ok (.ifCond .ne (5), 3) := by decide +kernel
theorem d_M_pay_20 : decode m_M_pay.2.1 20 = .ok (.aload_n 0, 1) := by decide +kernel
theorem d_M_pay_21 : decode m_M_pay.2.1 21 = .ok (.invokevirtual 208, 3) := by decide +kernel
theorem d_M_pay_24 : decode m_M_pay.2.1 24 = .ok (.ldc 231, 2) := by decide +kernel
theorem d_M_pay_26 : decode m_M_pay.2.1 26 = .ok (.istore_n 3, 1) := by decide +kernel
theorem d_M_pay_27 : decode m_M_pay.2.1 27 = .ok (.bipush (-2), 2) := by decide +kernel
theorem d_M_pay_29 : decode m_M_pay.2.1 29 = .ok (.istore 4, 2) := by decide +kernel
theorem d_M_pay_31 : decode m_M_pay.2.1 31 = .ok (.iconst 0, 1) := by decide +kernel
theorem d_M_pay_32 : decode m_M_pay.2.1 32 = .ok (.istore 5, 2) := by decide +kernel
theorem d_M_pay_34 : decode m_M_pay.2.1 34 = .ok (.iload 5, 2) := by decide +kernel
theorem d_M_pay_36 : decode m_M_pay.2.1 36 = .ok (.aload_n 0, 1) := by decide +kernel
theorem d_M_pay_37 : decode m_M_pay.2.1 37 = .ok (.getfield 81, 3) := by decide +kernel
theorem d_M_pay_40 : decode m_M_pay.2.1 40 = .ok (.if_icmp .ge (92), 3) := by decide +kernel
theorem d_M_pay_132 : decode m_M_pay.2.1 132 = .ok (.iload 4, 2) := by decide +kernel
theorem d_M_pay_134 : decode m_M_pay.2.1 134 = .ok (.ifCond .lt (8), 3) := by decide +kernel
theorem d_M_pay_142 : decode m_M_pay.2.1 142 = .ok (.iload 4, 2) := by decide +kernel
theorem d_M_pay_144 : decode m_M_pay.2.1 144 = .ok (.goto (4), 3) := by decide +kernel
theorem d_M_pay_148 : decode m_M_pay.2.1 148 = .ok (.ireturn, 1) := by decide +kernel
theorem d_M_pay_137 : decode m_M_pay.2.1 137 = .ok (.iload_n 2, 1) := by decide +kernel
theorem d_M_pay_138 : decode m_M_pay.2.1 138 = .ok (.iconst 1, 1) := by decide +kernel
theorem d_M_pay_139 : decode m_M_pay.2.1 139 = .ok (.if_icmp .ne (8), 3) := by decide +kernel
theorem d_M_pay_147 : decode m_M_pay.2.1 147 = .ok (.iload_n 3, 1) := by decide +kernel
theorem d_M_pay_43 : decode m_M_pay.2.1 43 = .ok (.iload 5, 2) := by decide +kernel
theorem d_M_pay_45 : decode m_M_pay.2.1 45 = .ok (.iconst 1, 1) := by decide +kernel
theorem d_M_pay_46 : decode m_M_pay.2.1 46 = .ok (.iadd, 1) := by decide +kernel
theorem d_M_pay_47 : decode m_M_pay.2.1 47 = .ok (.istore 6, 2) := by decide +kernel
theorem d_M_pay_49 : decode m_M_pay.2.1 49 = .ok (.iload 6, 2) := by decide +kernel
theorem d_M_pay_51 : decode m_M_pay.2.1 51 = .ok (.aload_n 0, 1) := by decide +kernel
theorem d_M_pay_52 : decode m_M_pay.2.1 52 = .ok (.getfield 81, 3) := by decide +kernel
theorem d_M_pay_55 : decode m_M_pay.2.1 55 = .ok (.if_icmp .ge (71), 3) := by decide +kernel
theorem d_M_pay_126 : decode m_M_pay.2.1 126 = .ok (.iinc 5 (1), 3) := by decide +kernel
theorem d_M_pay_129 : decode m_M_pay.2.1 129 = .ok (.goto (-95), 3) := by decide +kernel
theorem d_M_pay_58 : decode m_M_pay.2.1 58 = .ok (.aload_n 0, 1) := by decide +kernel
theorem d_M_pay_59 : decode m_M_pay.2.1 59 = .ok (.getfield 9, 3) := by decide +kernel
theorem d_M_pay_62 : decode m_M_pay.2.1 62 = .ok (.iload 5, 2) := by decide +kernel
theorem d_M_pay_64 : decode m_M_pay.2.1 64 = .ok (.iaload, 1) := by decide +kernel
theorem d_M_pay_65 : decode m_M_pay.2.1 65 = .ok (.aload_n 0, 1) := by decide +kernel
theorem d_M_pay_66 : decode m_M_pay.2.1 66 = .ok (.getfield 9, 3) := by decide +kernel
theorem d_M_pay_69 : decode m_M_pay.2.1 69 = .ok (.iload 6, 2) := by decide +kernel
theorem d_M_pay_71 : decode m_M_pay.2.1 71 = .ok (.iaload, 1) := by decide +kernel
theorem d_M_pay_72 : decode m_M_pay.2.1 72 = .ok (.if_icmp .eq (48), 3) := by decide +kernel
theorem d_M_pay_120 : decode m_M_pay.2.1 120 = .ok (.iinc 6 (1), 3) := by decide +kernel
theorem d_M_pay_123 : decode m_M_pay.2.1 123 = .ok (.goto (-74), 3) := by decide +kernel
theorem d_M_pay_75 : decode m_M_pay.2.1 75 = .ok (.aload_n 0, 1) := by decide +kernel
theorem d_M_pay_76 : decode m_M_pay.2.1 76 = .ok (.iload 5, 2) := by decide +kernel
theorem d_M_pay_78 : decode m_M_pay.2.1 78 = .ok (.iload_n 1, 1) := by decide +kernel
theorem d_M_pay_79 : decode m_M_pay.2.1 79 = .ok (.invokevirtual 232, 3) := by decide +kernel
theorem d_M_pay_82 : decode m_M_pay.2.1 82 = .ok (.aload_n 0, 1) := by decide +kernel
theorem d_M_pay_83 : decode m_M_pay.2.1 83 = .ok (.iload 6, 2) := by decide +kernel
theorem d_M_pay_85 : decode m_M_pay.2.1 85 = .ok (.iload_n 1, 1) := by decide +kernel
theorem d_M_pay_86 : decode m_M_pay.2.1 86 = .ok (.invokevirtual 232, 3) := by decide +kernel
theorem d_M_pay_89 : decode m_M_pay.2.1 89 = .ok (.iadd, 1) := by decide +kernel
theorem d_M_pay_90 : decode m_M_pay.2.1 90 = .ok (.iload_n 3, 1) := by decide +kernel
theorem d_M_pay_91 : decode m_M_pay.2.1 91 = .ok (.if_icmp .ge (29), 3) := by decide +kernel
theorem d_M_pay_94 : decode m_M_pay.2.1 94 = .ok (.aload_n 0, 1) := by decide +kernel
theorem d_M_pay_95 : decode m_M_pay.2.1 95 = .ok (.iload 5, 2) := by decide +kernel
theorem d_M_pay_97 : decode m_M_pay.2.1 97 = .ok (.iload_n 1, 1) := by decide +kernel
theorem d_M_pay_98 : decode m_M_pay.2.1 98 = .ok (.invokevirtual 232, 3) := by decide +kernel
theorem d_M_pay_101 : decode m_M_pay.2.1 101 = .ok (.aload_n 0, 1) := by decide +kernel
theorem d_M_pay_102 : decode m_M_pay.2.1 102 = .ok (.iload 6, 2) := by decide +kernel
theorem d_M_pay_104 : decode m_M_pay.2.1 104 = .ok (.iload_n 1, 1) := by decide +kernel
theorem d_M_pay_105 : decode m_M_pay.2.1 105 = .ok (.invokevirtual 232, 3) := by decide +kernel
theorem d_M_pay_108 : decode m_M_pay.2.1 108 = .ok (.iadd, 1) := by decide +kernel
theorem d_M_pay_109 : decode m_M_pay.2.1 109 = .ok (.istore_n 3, 1) := by decide +kernel
theorem d_M_pay_110 : decode m_M_pay.2.1 110 = .ok (.bipush (10), 2) := by decide +kernel
theorem d_M_pay_112 : decode m_M_pay.2.1 112 = .ok (.iload 5, 2) := by decide +kernel
theorem d_M_pay_114 : decode m_M_pay.2.1 114 = .ok (.imul, 1) := by decide +kernel
theorem d_M_pay_115 : decode m_M_pay.2.1 115 = .ok (.iload 6, 2) := by decide +kernel
theorem d_M_pay_117 : decode m_M_pay.2.1 117 = .ok (.iadd, 1) := by decide +kernel
theorem d_M_pay_118 : decode m_M_pay.2.1 118 = .ok (.istore 4, 2) := by decide +kernel
theorem d_M_payBoth_0 : decode m_M_payBoth.2.1 0 = .ok (.iload_n 1, 1) := by decide +kernel
theorem d_M_payBoth_1 : decode m_M_payBoth.2.1 1 = .ok (.ifCond .lt (48), 3) := by decide +kernel
theorem d_M_payBoth_49 : decode m_M_payBoth.2.1 49 = .ok (.iconst (-1), 1) := by decide +kernel
theorem d_M_payBoth_50 : decode m_M_payBoth.2.1 50 = .ok (.ireturn, 1) := by decide +kernel
theorem d_M_payBoth_4 : decode m_M_payBoth.2.1 4 = .ok (.iload_n 1, 1) := by decide +kernel
theorem d_M_payBoth_5 : decode m_M_payBoth.2.1 5 = .ok (.bipush (10), 2) := by decide +kernel
theorem d_M_payBoth_7 : decode m_M_payBoth.2.1 7 = .ok (.idiv, 1) := by decide +kernel
theorem d_M_payBoth_8 : decode m_M_payBoth.2.1 8 = .ok (.i2l, 1) := by decide +kernel
theorem d_M_payBoth_9 : decode m_M_payBoth.2.1 9 = .ok (.invokestatic 119, 3) := by decide +kernel
theorem d_M_payBoth_12 : decode m_M_payBoth.2.1 12 = .ok (.ifCond .eq (37), 3) := by decide +kernel
theorem d_M_payBoth_15 : decode m_M_payBoth.2.1 15 = .ok (.iload_n 1, 1) := by decide +kernel
theorem d_M_payBoth_16 : decode m_M_payBoth.2.1 16 = .ok (.bipush (10), 2) := by decide +kernel
theorem d_M_payBoth_18 : decode m_M_payBoth.2.1 18 = .ok (.irem, 1) := by decide +kernel
theorem d_M_payBoth_19 : decode m_M_payBoth.2.1 19 = .ok (.i2l, 1) := by decide +kernel
theorem d_M_payBoth_20 : decode m_M_payBoth.2.1 20 = .ok (.invokestatic 119, 3) := by decide +kernel
theorem d_M_payBoth_23 : decode m_M_payBoth.2.1 23 = .ok (.ifCond .eq (26), 3) := by decide +kernel
theorem d_M_payBoth_26 : decode m_M_payBoth.2.1 26 = .ok (.iload_n 1, 1) := by decide +kernel
theorem d_M_payBoth_27 : decode m_M_payBoth.2.1 27 = .ok (.bipush (10), 2) := by decide +kernel
theorem d_M_payBoth_29 : decode m_M_payBoth.2.1 29 = .ok (.idiv, 1) := by decide +kernel
theorem d_M_payBoth_30 : decode m_M_payBoth.2.1 30 = .ok (.iload_n 1, 1) := by decide +kernel
theorem d_M_payBoth_31 : decode m_M_payBoth.2.1 31 = .ok (.bipush (10), 2) := by decide +kernel
theorem d_M_payBoth_33 : decode m_M_payBoth.2.1 33 = .ok (.irem, 1) := by decide +kernel
theorem d_M_payBoth_34 : decode m_M_payBoth.2.1 34 = .ok (.if_icmp .eq (15), 3) := by decide +kernel
theorem d_M_payBoth_37 : decode m_M_payBoth.2.1 37 = .ok (.iload_n 2, 1) := by decide +kernel
theorem d_M_payBoth_38 : decode m_M_payBoth.2.1 38 = .ok (.i2l, 1) := by decide +kernel
theorem d_M_payBoth_39 : decode m_M_payBoth.2.1 39 = .ok (.lconst 0, 1) := by decide +kernel
theorem d_M_payBoth_40 : decode m_M_payBoth.2.1 40 = .ok (.ldc2_w 122, 3) := by decide +kernel
theorem d_M_payBoth_43 : decode m_M_payBoth.2.1 43 = .ok (.invokestatic 84, 3) := by decide +kernel
theorem d_M_payBoth_46 : decode m_M_payBoth.2.1 46 = .ok (.ifCond .ne (5), 3) := by decide +kernel
theorem d_M_payBoth_51 : decode m_M_payBoth.2.1 51 = .ok (.aload_n 0, 1) := by decide +kernel
theorem d_M_payBoth_52 : decode m_M_payBoth.2.1 52 = .ok (.invokevirtual 208, 3) := by decide +kernel
theorem d_M_payBoth_55 : decode m_M_payBoth.2.1 55 = .ok (.ldc 231, 2) := by decide +kernel
theorem d_M_payBoth_57 : decode m_M_payBoth.2.1 57 = .ok (.istore_n 3, 1) := by decide +kernel
theorem d_M_payBoth_58 : decode m_M_payBoth.2.1 58 = .ok (.bipush (-2), 2) := by decide +kernel
theorem d_M_payBoth_60 : decode m_M_payBoth.2.1 60 = .ok (.istore 4, 2) := by decide +kernel
theorem d_M_payBoth_62 : decode m_M_payBoth.2.1 62 = .ok (.bipush (-2), 2) := by decide +kernel
theorem d_M_payBoth_64 : decode m_M_payBoth.2.1 64 = .ok (.istore 5, 2) := by decide +kernel
theorem d_M_payBoth_66 : decode m_M_payBoth.2.1 66 = .ok (.iconst 0, 1) := by decide +kernel
theorem d_M_payBoth_67 : decode m_M_payBoth.2.1 67 = .ok (.istore 6, 2) := by decide +kernel
theorem d_M_payBoth_69 : decode m_M_payBoth.2.1 69 = .ok (.iload 6, 2) := by decide +kernel
theorem d_M_payBoth_71 : decode m_M_payBoth.2.1 71 = .ok (.bipush (100), 2) := by decide +kernel
theorem d_M_payBoth_73 : decode m_M_payBoth.2.1 73 = .ok (.if_icmp .ge (221), 3) := by decide +kernel
theorem d_M_payBoth_294 : decode m_M_payBoth.2.1 294 = .ok (.iload 4, 2) := by decide +kernel
theorem d_M_payBoth_296 : decode m_M_payBoth.2.1 296 = .ok (.ifCond .ge (8), 3) := by decide +kernel
theorem d_M_payBoth_304 : decode m_M_payBoth.2.1 304 = .ok (.iload_n 2, 1) := by decide +kernel
theorem d_M_payBoth_305 : decode m_M_payBoth.2.1 305 = .ok (.ifCond .ne (7), 3) := by decide +kernel
theorem d_M_payBoth_308 : decode m_M_payBoth.2.1 308 = .ok (.iload_n 3, 1) := by decide +kernel
theorem d_M_payBoth_309 : decode m_M_payBoth.2.1 309 = .ok (.goto (15), 3) := by decide +kernel
theorem d_M_payBoth_324 : decode m_M_payBoth.2.1 324 = .ok (.ireturn, 1) := by decide +kernel
theorem d_M_payBoth_312 : decode m_M_payBoth.2.1 312 = .ok (.iload_n 2, 1) := by decide +kernel
theorem d_M_payBoth_313 : decode m_M_payBoth.2.1 313 = .ok (.iconst 1, 1) := by decide +kernel
theorem d_M_payBoth_314 : decode m_M_payBoth.2.1 314 = .ok (.if_icmp .ne (8), 3) := by decide +kernel
theorem d_M_payBoth_317 : decode m_M_payBoth.2.1 317 = .ok (.iload 4, 2) := by decide +kernel
theorem d_M_payBoth_319 : decode m_M_payBoth.2.1 319 = .ok (.goto (5), 3) := by decide +kernel
theorem d_M_payBoth_322 : decode m_M_payBoth.2.1 322 = .ok (.iload 5, 2) := by decide +kernel
theorem d_M_payBoth_299 : decode m_M_payBoth.2.1 299 = .ok (.bipush (-2), 2) := by decide +kernel
theorem d_M_payBoth_301 : decode m_M_payBoth.2.1 301 = .ok (.goto (23), 3) := by decide +kernel
theorem d_M_payBoth_76 : decode m_M_payBoth.2.1 76 = .ok (.iconst 0, 1) := by decide +kernel
theorem d_M_payBoth_77 : decode m_M_payBoth.2.1 77 = .ok (.istore 7, 2) := by decide +kernel
theorem d_M_payBoth_79 : decode m_M_payBoth.2.1 79 = .ok (.iload 7, 2) := by decide +kernel
theorem d_M_payBoth_81 : decode m_M_payBoth.2.1 81 = .ok (.bipush (100), 2) := by decide +kernel
theorem d_M_payBoth_83 : decode m_M_payBoth.2.1 83 = .ok (.if_icmp .ge (205), 3) := by decide +kernel
theorem d_M_payBoth_288 : decode m_M_payBoth.2.1 288 = .ok (.iinc 6 (1), 3) := by decide +kernel
theorem d_M_payBoth_291 : decode m_M_payBoth.2.1 291 = .ok (.goto (-222), 3) := by decide +kernel
theorem d_M_payBoth_86 : decode m_M_payBoth.2.1 86 = .ok (.iload 6, 2) := by decide +kernel
theorem d_M_payBoth_88 : decode m_M_payBoth.2.1 88 = .ok (.bipush (10), 2) := by decide +kernel
theorem d_M_payBoth_90 : decode m_M_payBoth.2.1 90 = .ok (.idiv, 1) := by decide +kernel
theorem d_M_payBoth_91 : decode m_M_payBoth.2.1 91 = .ok (.istore 8, 2) := by decide +kernel
theorem d_M_payBoth_93 : decode m_M_payBoth.2.1 93 = .ok (.iload 6, 2) := by decide +kernel
theorem d_M_payBoth_95 : decode m_M_payBoth.2.1 95 = .ok (.bipush (10), 2) := by decide +kernel
theorem d_M_payBoth_97 : decode m_M_payBoth.2.1 97 = .ok (.irem, 1) := by decide +kernel
theorem d_M_payBoth_98 : decode m_M_payBoth.2.1 98 = .ok (.istore 9, 2) := by decide +kernel
theorem d_M_payBoth_100 : decode m_M_payBoth.2.1 100 = .ok (.iload 7, 2) := by decide +kernel
theorem d_M_payBoth_102 : decode m_M_payBoth.2.1 102 = .ok (.bipush (10), 2) := by decide +kernel
theorem d_M_payBoth_104 : decode m_M_payBoth.2.1 104 = .ok (.idiv, 1) := by decide +kernel
theorem d_M_payBoth_105 : decode m_M_payBoth.2.1 105 = .ok (.istore 10, 2) := by decide +kernel
theorem d_M_payBoth_107 : decode m_M_payBoth.2.1 107 = .ok (.iload 7, 2) := by decide +kernel
theorem d_M_payBoth_109 : decode m_M_payBoth.2.1 109 = .ok (.bipush (10), 2) := by decide +kernel
theorem d_M_payBoth_111 : decode m_M_payBoth.2.1 111 = .ok (.irem, 1) := by decide +kernel
theorem d_M_payBoth_112 : decode m_M_payBoth.2.1 112 = .ok (.istore 11, 2) := by decide +kernel
theorem d_M_payBoth_114 : decode m_M_payBoth.2.1 114 = .ok (.iload 8, 2) := by decide +kernel
theorem d_M_payBoth_116 : decode m_M_payBoth.2.1 116 = .ok (.iload 9, 2) := by decide +kernel
theorem d_M_payBoth_118 : decode m_M_payBoth.2.1 118 = .ok (.if_icmp .ge (60), 3) := by decide +kernel
theorem d_M_payBoth_178 : decode m_M_payBoth.2.1 178 = .ok (.iconst 0, 1) := by decide +kernel
theorem d_M_payBoth_179 : decode m_M_payBoth.2.1 179 = .ok (.istore 12, 2) := by decide +kernel
theorem d_M_payBoth_181 : decode m_M_payBoth.2.1 181 = .ok (.iload 12, 2) := by decide +kernel
theorem d_M_payBoth_183 : decode m_M_payBoth.2.1 183 = .ok (.ifCond .eq (99), 3) := by decide +kernel
theorem d_M_payBoth_282 : decode m_M_payBoth.2.1 282 = .ok (.iinc 7 (1), 3) := by decide +kernel
theorem d_M_payBoth_285 : decode m_M_payBoth.2.1 285 = .ok (.goto (-206), 3) := by decide +kernel
theorem d_M_payBoth_186 : decode m_M_payBoth.2.1 186 = .ok (.aload_n 0, 1) := by decide +kernel
theorem d_M_payBoth_187 : decode m_M_payBoth.2.1 187 = .ok (.getfield 9, 3) := by decide +kernel
theorem d_M_payBoth_190 : decode m_M_payBoth.2.1 190 = .ok (.iload 8, 2) := by decide +kernel
theorem d_M_payBoth_192 : decode m_M_payBoth.2.1 192 = .ok (.iaload, 1) := by decide +kernel
theorem d_M_payBoth_193 : decode m_M_payBoth.2.1 193 = .ok (.aload_n 0, 1) := by decide +kernel
theorem d_M_payBoth_194 : decode m_M_payBoth.2.1 194 = .ok (.getfield 9, 3) := by decide +kernel
theorem d_M_payBoth_197 : decode m_M_payBoth.2.1 197 = .ok (.iload 9, 2) := by decide +kernel
theorem d_M_payBoth_199 : decode m_M_payBoth.2.1 199 = .ok (.iaload, 1) := by decide +kernel
theorem d_M_payBoth_200 : decode m_M_payBoth.2.1 200 = .ok (.if_icmp .eq (82), 3) := by decide +kernel
theorem d_M_payBoth_203 : decode m_M_payBoth.2.1 203 = .ok (.aload_n 0, 1) := by decide +kernel
theorem d_M_payBoth_204 : decode m_M_payBoth.2.1 204 = .ok (.getfield 9, 3) := by decide +kernel
theorem d_M_payBoth_207 : decode m_M_payBoth.2.1 207 = .ok (.iload 10, 2) := by decide +kernel
theorem d_M_payBoth_209 : decode m_M_payBoth.2.1 209 = .ok (.iaload, 1) := by decide +kernel
theorem d_M_payBoth_210 : decode m_M_payBoth.2.1 210 = .ok (.aload_n 0, 1) := by decide +kernel
theorem d_M_payBoth_211 : decode m_M_payBoth.2.1 211 = .ok (.getfield 9, 3) := by decide +kernel
theorem d_M_payBoth_214 : decode m_M_payBoth.2.1 214 = .ok (.iload 11, 2) := by decide +kernel
theorem d_M_payBoth_216 : decode m_M_payBoth.2.1 216 = .ok (.iaload, 1) := by decide +kernel
theorem d_M_payBoth_217 : decode m_M_payBoth.2.1 217 = .ok (.if_icmp .eq (65), 3) := by decide +kernel
theorem d_M_payBoth_220 : decode m_M_payBoth.2.1 220 = .ok (.aload_n 0, 1) := by decide +kernel
theorem d_M_payBoth_221 : decode m_M_payBoth.2.1 221 = .ok (.iload 8, 2) := by decide +kernel
theorem d_M_payBoth_223 : decode m_M_payBoth.2.1 223 = .ok (.iload_n 1, 1) := by decide +kernel
theorem d_M_payBoth_224 : decode m_M_payBoth.2.1 224 = .ok (.bipush (10), 2) := by decide +kernel
theorem d_M_payBoth_226 : decode m_M_payBoth.2.1 226 = .ok (.idiv, 1) := by decide +kernel
theorem d_M_payBoth_227 : decode m_M_payBoth.2.1 227 = .ok (.invokevirtual 232, 3) := by decide +kernel
theorem d_M_payBoth_230 : decode m_M_payBoth.2.1 230 = .ok (.aload_n 0, 1) := by decide +kernel
theorem d_M_payBoth_231 : decode m_M_payBoth.2.1 231 = .ok (.iload 9, 2) := by decide +kernel
theorem d_M_payBoth_233 : decode m_M_payBoth.2.1 233 = .ok (.iload_n 1, 1) := by decide +kernel
theorem d_M_payBoth_234 : decode m_M_payBoth.2.1 234 = .ok (.bipush (10), 2) := by decide +kernel
theorem d_M_payBoth_236 : decode m_M_payBoth.2.1 236 = .ok (.idiv, 1) := by decide +kernel
theorem d_M_payBoth_237 : decode m_M_payBoth.2.1 237 = .ok (.invokevirtual 232, 3) := by decide +kernel
theorem d_M_payBoth_240 : decode m_M_payBoth.2.1 240 = .ok (.iadd, 1) := by decide +kernel
theorem d_M_payBoth_241 : decode m_M_payBoth.2.1 241 = .ok (.aload_n 0, 1) := by decide +kernel
theorem d_M_payBoth_242 : decode m_M_payBoth.2.1 242 = .ok (.iload 10, 2) := by decide +kernel
theorem d_M_payBoth_244 : decode m_M_payBoth.2.1 244 = .ok (.iload_n 1, 1) := by decide +kernel
theorem d_M_payBoth_245 : decode m_M_payBoth.2.1 245 = .ok (.bipush (10), 2) := by decide +kernel
theorem d_M_payBoth_247 : decode m_M_payBoth.2.1 247 = .ok (.irem, 1) := by decide +kernel
theorem d_M_payBoth_248 : decode m_M_payBoth.2.1 248 = .ok (.invokevirtual 232, 3) := by decide +kernel
theorem d_M_payBoth_251 : decode m_M_payBoth.2.1 251 = .ok (.iadd, 1) := by decide +kernel
theorem d_M_payBoth_252 : decode m_M_payBoth.2.1 252 = .ok (.aload_n 0, 1) := by decide +kernel
theorem d_M_payBoth_253 : decode m_M_payBoth.2.1 253 = .ok (.iload 11, 2) := by decide +kernel
theorem d_M_payBoth_255 : decode m_M_payBoth.2.1 255 = .ok (.iload_n 1, 1) := by decide +kernel
theorem d_M_payBoth_256 : decode m_M_payBoth.2.1 256 = .ok (.bipush (10), 2) := by decide +kernel
theorem d_M_payBoth_258 : decode m_M_payBoth.2.1 258 = .ok (.irem, 1) := by decide +kernel
theorem d_M_payBoth_259 : decode m_M_payBoth.2.1 259 = .ok (.invokevirtual 232, 3) := by decide +kernel
theorem d_M_payBoth_262 : decode m_M_payBoth.2.1 262 = .ok (.iadd, 1) := by decide +kernel
theorem d_M_payBoth_263 : decode m_M_payBoth.2.1 263 = .ok (.istore 13, 2) := by decide +kernel
theorem d_M_payBoth_265 : decode m_M_payBoth.2.1 265 = .ok (.iload 13, 2) := by decide +kernel
theorem d_M_payBoth_267 : decode m_M_payBoth.2.1 267 = .ok (.iload_n 3, 1) := by decide +kernel
theorem d_M_payBoth_268 : decode m_M_payBoth.2.1 268 = .ok (.if_icmp .ge (14), 3) := by decide +kernel
theorem d_M_payBoth_271 : decode m_M_payBoth.2.1 271 = .ok (.iload 13, 2) := by decide +kernel
theorem d_M_payBoth_273 : decode m_M_payBoth.2.1 273 = .ok (.istore_n 3, 1) := by decide +kernel
theorem d_M_payBoth_274 : decode m_M_payBoth.2.1 274 = .ok (.iload 6, 2) := by decide +kernel
theorem d_M_payBoth_276 : decode m_M_payBoth.2.1 276 = .ok (.istore 4, 2) := by decide +kernel
theorem d_M_payBoth_278 : decode m_M_payBoth.2.1 278 = .ok (.iload 7, 2) := by decide +kernel
theorem d_M_payBoth_280 : decode m_M_payBoth.2.1 280 = .ok (.istore 5, 2) := by decide +kernel
theorem d_M_payBoth_121 : decode m_M_payBoth.2.1 121 = .ok (.iload 9, 2) := by decide +kernel
theorem d_M_payBoth_123 : decode m_M_payBoth.2.1 123 = .ok (.aload_n 0, 1) := by decide +kernel
theorem d_M_payBoth_124 : decode m_M_payBoth.2.1 124 = .ok (.getfield 81, 3) := by decide +kernel
theorem d_M_payBoth_127 : decode m_M_payBoth.2.1 127 = .ok (.if_icmp .ge (51), 3) := by decide +kernel
theorem d_M_payBoth_130 : decode m_M_payBoth.2.1 130 = .ok (.iload 10, 2) := by decide +kernel
theorem d_M_payBoth_132 : decode m_M_payBoth.2.1 132 = .ok (.iload 11, 2) := by decide +kernel
theorem d_M_payBoth_134 : decode m_M_payBoth.2.1 134 = .ok (.if_icmp .ge (44), 3) := by decide +kernel
theorem d_M_payBoth_137 : decode m_M_payBoth.2.1 137 = .ok (.iload 11, 2) := by decide +kernel
theorem d_M_payBoth_139 : decode m_M_payBoth.2.1 139 = .ok (.aload_n 0, 1) := by decide +kernel
theorem d_M_payBoth_140 : decode m_M_payBoth.2.1 140 = .ok (.getfield 81, 3) := by decide +kernel
theorem d_M_payBoth_143 : decode m_M_payBoth.2.1 143 = .ok (.if_icmp .ge (35), 3) := by decide +kernel
theorem d_M_payBoth_146 : decode m_M_payBoth.2.1 146 = .ok (.iload 8, 2) := by decide +kernel
theorem d_M_payBoth_148 : decode m_M_payBoth.2.1 148 = .ok (.iload 10, 2) := by decide +kernel
theorem d_M_payBoth_150 : decode m_M_payBoth.2.1 150 = .ok (.if_icmp .eq (28), 3) := by decide +kernel
theorem d_M_payBoth_153 : decode m_M_payBoth.2.1 153 = .ok (.iload 8, 2) := by decide +kernel
theorem d_M_payBoth_155 : decode m_M_payBoth.2.1 155 = .ok (.iload 11, 2) := by decide +kernel
theorem d_M_payBoth_157 : decode m_M_payBoth.2.1 157 = .ok (.if_icmp .eq (21), 3) := by decide +kernel
theorem d_M_payBoth_160 : decode m_M_payBoth.2.1 160 = .ok (.iload 9, 2) := by decide +kernel
theorem d_M_payBoth_162 : decode m_M_payBoth.2.1 162 = .ok (.iload 10, 2) := by decide +kernel
theorem d_M_payBoth_164 : decode m_M_payBoth.2.1 164 = .ok (.if_icmp .eq (14), 3) := by decide +kernel
theorem d_M_payBoth_167 : decode m_M_payBoth.2.1 167 = .ok (.iload 9, 2) := by decide +kernel
theorem d_M_payBoth_169 : decode m_M_payBoth.2.1 169 = .ok (.iload 11, 2) := by decide +kernel
theorem d_M_payBoth_171 : decode m_M_payBoth.2.1 171 = .ok (.if_icmp .eq (7), 3) := by decide +kernel
theorem d_M_payBoth_174 : decode m_M_payBoth.2.1 174 = .ok (.iconst 1, 1) := by decide +kernel
theorem d_M_payBoth_175 : decode m_M_payBoth.2.1 175 = .ok (.goto (4), 3) := by decide +kernel
theorem d_M_pairsOf_0 : decode m_M_pairsOf.2.1 0 = .ok (.iconst 1, 1) := by decide +kernel
theorem d_M_pairsOf_1 : decode m_M_pairsOf.2.1 1 = .ok (.istore_n 1, 1) := by decide +kernel
theorem d_M_pairsOf_2 : decode m_M_pairsOf.2.1 2 = .ok (.iload_n 1, 1) := by decide +kernel
theorem d_M_pairsOf_3 : decode m_M_pairsOf.2.1 3 = .ok (.iconst 1, 1) := by decide +kernel
theorem d_M_pairsOf_4 : decode m_M_pairsOf.2.1 4 = .ok (.aload_n 0, 1) := by decide +kernel
theorem d_M_pairsOf_5 : decode m_M_pairsOf.2.1 5 = .ok (.getfield 81, 3) := by decide +kernel
theorem d_M_pairsOf_8 : decode m_M_pairsOf.2.1 8 = .ok (.ishl, 1) := by decide +kernel
theorem d_M_pairsOf_9 : decode m_M_pairsOf.2.1 9 = .ok (.if_icmp .ge (125), 3) := by decide +kernel
theorem d_M_pairsOf_134 : decode m_M_pairsOf.2.1 134 = .ok (.aload_n 0, 1) := by decide +kernel
theorem d_M_pairsOf_135 : decode m_M_pairsOf.2.1 135 = .ok (.getfield 81, 3) := by decide +kernel
theorem d_M_pairsOf_138 : decode m_M_pairsOf.2.1 138 = .ok (.ifCond .ne (7), 3) := by decide +kernel
theorem d_M_pairsOf_141 : decode m_M_pairsOf.2.1 141 = .ok (.iconst 0, 1) := by decide +kernel
theorem d_M_pairsOf_142 : decode m_M_pairsOf.2.1 142 = .ok (.goto (12), 3) := by decide +kernel
theorem d_M_pairsOf_154 : decode m_M_pairsOf.2.1 154 = .ok (.ireturn, 1) := by decide +kernel
theorem d_M_pairsOf_145 : decode m_M_pairsOf.2.1 145 = .ok (.aload_n 0, 1) := by decide +kernel
theorem d_M_pairsOf_146 : decode m_M_pairsOf.2.1 146 = .ok (.getfield 34, 3) := by decide +kernel
theorem d_M_pairsOf_149 : decode m_M_pairsOf.2.1 149 = .ok (.aload_n 0, 1) := by decide +kernel
theorem d_M_pairsOf_150 : decode m_M_pairsOf.2.1 150 = .ok (.invokevirtual 211, 3) := by decide +kernel
theorem d_M_pairsOf_153 : decode m_M_pairsOf.2.1 153 = .ok (.iaload, 1) := by decide +kernel
theorem d_M_pairsOf_12 : decode m_M_pairsOf.2.1 12 = .ok (.iconst 0, 1) := by decide +kernel
theorem d_M_pairsOf_13 : decode m_M_pairsOf.2.1 13 = .ok (.istore_n 2, 1) := by decide +kernel
theorem d_M_pairsOf_14 : decode m_M_pairsOf.2.1 14 = .ok (.iload_n 1, 1) := by decide +kernel
theorem d_M_pairsOf_15 : decode m_M_pairsOf.2.1 15 = .ok (.iload_n 2, 1) := by decide +kernel
theorem d_M_pairsOf_16 : decode m_M_pairsOf.2.1 16 = .ok (.invokestatic 199, 3) := by decide +kernel
theorem d_M_pairsOf_19 : decode m_M_pairsOf.2.1 19 = .ok (.ifCond .ne (9), 3) := by decide +kernel
theorem d_M_pairsOf_22 : decode m_M_pairsOf.2.1 22 = .ok (.iinc 2 (1), 3) := by decide +kernel
theorem d_M_pairsOf_25 : decode m_M_pairsOf.2.1 25 = .ok (.goto (-11), 3) := by decide +kernel
theorem d_M_pairsOf_28 : decode m_M_pairsOf.2.1 28 = .ok (.iload_n 1, 1) := by decide +kernel
theorem d_M_pairsOf_29 : decode m_M_pairsOf.2.1 29 = .ok (.iconst 1, 1) := by decide +kernel
theorem d_M_pairsOf_30 : decode m_M_pairsOf.2.1 30 = .ok (.iload_n 2, 1) := by decide +kernel
theorem d_M_pairsOf_31 : decode m_M_pairsOf.2.1 31 = .ok (.ishl, 1) := by decide +kernel
theorem d_M_pairsOf_32 : decode m_M_pairsOf.2.1 32 = .ok (.iconst (-1), 1) := by decide +kernel
theorem d_M_pairsOf_33 : decode m_M_pairsOf.2.1 33 = .ok (.ixor, 1) := by decide +kernel
theorem d_M_pairsOf_34 : decode m_M_pairsOf.2.1 34 = .ok (.iand, 1) := by decide +kernel
theorem d_M_pairsOf_35 : decode m_M_pairsOf.2.1 35 = .ok (.istore_n 3, 1) := by decide +kernel
theorem d_M_pairsOf_36 : decode m_M_pairsOf.2.1 36 = .ok (.aload_n 0, 1) := by decide +kernel
theorem d_M_pairsOf_37 : decode m_M_pairsOf.2.1 37 = .ok (.getfield 34, 3) := by decide +kernel
theorem d_M_pairsOf_40 : decode m_M_pairsOf.2.1 40 = .ok (.iload_n 3, 1) := by decide +kernel
theorem d_M_pairsOf_41 : decode m_M_pairsOf.2.1 41 = .ok (.iaload, 1) := by decide +kernel
theorem d_M_pairsOf_42 : decode m_M_pairsOf.2.1 42 = .ok (.istore 4, 2) := by decide +kernel
theorem d_M_pairsOf_44 : decode m_M_pairsOf.2.1 44 = .ok (.iload_n 2, 1) := by decide +kernel
theorem d_M_pairsOf_45 : decode m_M_pairsOf.2.1 45 = .ok (.iconst 1, 1) := by decide +kernel
theorem d_M_pairsOf_46 : decode m_M_pairsOf.2.1 46 = .ok (.iadd, 1) := by decide +kernel
theorem d_M_pairsOf_47 : decode m_M_pairsOf.2.1 47 = .ok (.istore 5, 2) := by decide +kernel
theorem d_M_pairsOf_49 : decode m_M_pairsOf.2.1 49 = .ok (.iload 5, 2) := by decide +kernel
theorem d_M_pairsOf_51 : decode m_M_pairsOf.2.1 51 = .ok (.aload_n 0, 1) := by decide +kernel
theorem d_M_pairsOf_52 : decode m_M_pairsOf.2.1 52 = .ok (.getfield 81, 3) := by decide +kernel
theorem d_M_pairsOf_55 : decode m_M_pairsOf.2.1 55 = .ok (.if_icmp .ge (65), 3) := by decide +kernel
theorem d_M_pairsOf_120 : decode m_M_pairsOf.2.1 120 = .ok (.aload_n 0, 1) := by decide +kernel
theorem d_M_pairsOf_121 : decode m_M_pairsOf.2.1 121 = .ok (.getfield 34, 3) := by decide +kernel
theorem d_M_pairsOf_124 : decode m_M_pairsOf.2.1 124 = .ok (.iload_n 1, 1) := by decide +kernel
theorem d_M_pairsOf_125 : decode m_M_pairsOf.2.1 125 = .ok (.iload 4, 2) := by decide +kernel
theorem d_M_pairsOf_127 : decode m_M_pairsOf.2.1 127 = .ok (.iastore, 1) := by decide +kernel
theorem d_M_pairsOf_128 : decode m_M_pairsOf.2.1 128 = .ok (.iinc 1 (1), 3) := by decide +kernel
theorem d_M_pairsOf_131 : decode m_M_pairsOf.2.1 131 = .ok (.goto (-129), 3) := by decide +kernel
theorem d_M_pairsOf_58 : decode m_M_pairsOf.2.1 58 = .ok (.iload_n 3, 1) := by decide +kernel
theorem d_M_pairsOf_59 : decode m_M_pairsOf.2.1 59 = .ok (.iload 5, 2) := by decide +kernel
theorem d_M_pairsOf_61 : decode m_M_pairsOf.2.1 61 = .ok (.invokestatic 199, 3) := by decide +kernel
theorem d_M_pairsOf_64 : decode m_M_pairsOf.2.1 64 = .ok (.ifCond .eq (50), 3) := by decide +kernel
theorem d_M_pairsOf_114 : decode m_M_pairsOf.2.1 114 = .ok (.iinc 5 (1), 3) := by decide +kernel
theorem d_M_pairsOf_117 : decode m_M_pairsOf.2.1 117 = .ok (.goto (-68), 3) := by decide +kernel
theorem d_M_pairsOf_67 : decode m_M_pairsOf.2.1 67 = .ok (.aload_n 0, 1) := by decide +kernel
theorem d_M_pairsOf_68 : decode m_M_pairsOf.2.1 68 = .ok (.iload_n 2, 1) := by decide +kernel
theorem d_M_pairsOf_69 : decode m_M_pairsOf.2.1 69 = .ok (.iload 5, 2) := by decide +kernel
theorem d_M_pairsOf_71 : decode m_M_pairsOf.2.1 71 = .ok (.invokevirtual 202, 3) := by decide +kernel
theorem d_M_pairsOf_74 : decode m_M_pairsOf.2.1 74 = .ok (.ifCond .eq (40), 3) := by decide +kernel
theorem d_M_pairsOf_77 : decode m_M_pairsOf.2.1 77 = .ok (.aload_n 0, 1) := by decide +kernel
theorem d_M_pairsOf_78 : decode m_M_pairsOf.2.1 78 = .ok (.getfield 34, 3) := by decide +kernel
theorem d_M_pairsOf_81 : decode m_M_pairsOf.2.1 81 = .ok (.iload_n 3, 1) := by decide +kernel
theorem d_M_pairsOf_82 : decode m_M_pairsOf.2.1 82 = .ok (.iconst 1, 1) := by decide +kernel
theorem d_M_pairsOf_83 : decode m_M_pairsOf.2.1 83 = .ok (.iload 5, 2) := by decide +kernel
theorem d_M_pairsOf_85 : decode m_M_pairsOf.2.1 85 = .ok (.ishl, 1) := by decide +kernel
theorem d_M_pairsOf_86 : decode m_M_pairsOf.2.1 86 = .ok (.iconst (-1), 1) := by decide +kernel
theorem d_M_pairsOf_87 : decode m_M_pairsOf.2.1 87 = .ok (.ixor, 1) := by decide +kernel
theorem d_M_pairsOf_88 : decode m_M_pairsOf.2.1 88 = .ok (.iand, 1) := by decide +kernel
theorem d_M_pairsOf_89 : decode m_M_pairsOf.2.1 89 = .ok (.iaload, 1) := by decide +kernel
theorem d_M_pairsOf_90 : decode m_M_pairsOf.2.1 90 = .ok (.iconst 1, 1) := by decide +kernel
theorem d_M_pairsOf_91 : decode m_M_pairsOf.2.1 91 = .ok (.iadd, 1) := by decide +kernel
theorem d_M_pairsOf_92 : decode m_M_pairsOf.2.1 92 = .ok (.iload 4, 2) := by decide +kernel
theorem d_M_pairsOf_94 : decode m_M_pairsOf.2.1 94 = .ok (.if_icmp .le (20), 3) := by decide +kernel
theorem d_M_pairsOf_97 : decode m_M_pairsOf.2.1 97 = .ok (.aload_n 0, 1) := by decide +kernel
theorem d_M_pairsOf_98 : decode m_M_pairsOf.2.1 98 = .ok (.getfield 34, 3) := by decide +kernel
theorem d_M_pairsOf_101 : decode m_M_pairsOf.2.1 101 = .ok (.iload_n 3, 1) := by decide +kernel
theorem d_M_pairsOf_102 : decode m_M_pairsOf.2.1 102 = .ok (.iconst 1, 1) := by decide +kernel
theorem d_M_pairsOf_103 : decode m_M_pairsOf.2.1 103 = .ok (.iload 5, 2) := by decide +kernel
theorem d_M_pairsOf_105 : decode m_M_pairsOf.2.1 105 = .ok (.ishl, 1) := by decide +kernel
theorem d_M_pairsOf_106 : decode m_M_pairsOf.2.1 106 = .ok (.iconst (-1), 1) := by decide +kernel
theorem d_M_pairsOf_107 : decode m_M_pairsOf.2.1 107 = .ok (.ixor, 1) := by decide +kernel
theorem d_M_pairsOf_108 : decode m_M_pairsOf.2.1 108 = .ok (.iand, 1) := by decide +kernel
theorem d_M_pairsOf_109 : decode m_M_pairsOf.2.1 109 = .ok (.iaload, 1) := by decide +kernel
theorem d_M_pairsOf_110 : decode m_M_pairsOf.2.1 110 = .ok (.iconst 1, 1) := by decide +kernel
theorem d_M_pairsOf_111 : decode m_M_pairsOf.2.1 111 = .ok (.iadd, 1) := by decide +kernel
theorem d_M_pairsOf_112 : decode m_M_pairsOf.2.1 112 = .ok (.istore 4, 2) := by decide +kernel
theorem d_M_droughtOf_0 : decode m_M_droughtOf.2.1 0 = .ok (.iconst 0, 1) := by decide +kernel
theorem d_M_droughtOf_1 : decode m_M_droughtOf.2.1 1 = .ok (.istore_n 1, 1) := by decide +kernel
theorem d_M_droughtOf_2 : decode m_M_droughtOf.2.1 2 = .ok (.iload_n 1, 1) := by decide +kernel
theorem d_M_droughtOf_3 : decode m_M_droughtOf.2.1 3 = .ok (.bipush (8), 2) := by decide +kernel
theorem d_M_droughtOf_5 : decode m_M_droughtOf.2.1 5 = .ok (.if_icmp .ge (16), 3) := by decide +kernel
theorem d_M_droughtOf_21 : decode m_M_droughtOf.2.1 21 = .ok (.iconst 0, 1) := by decide +kernel
theorem d_M_droughtOf_22 : decode m_M_droughtOf.2.1 22 = .ok (.istore_n 1, 1) := by decide +kernel
theorem d_M_droughtOf_23 : decode m_M_droughtOf.2.1 23 = .ok (.iconst 0, 1) := by decide +kernel
theorem d_M_droughtOf_24 : decode m_M_droughtOf.2.1 24 = .ok (.istore_n 2, 1) := by decide +kernel
theorem d_M_droughtOf_25 : decode m_M_droughtOf.2.1 25 = .ok (.iload_n 2, 1) := by decide +kernel
theorem d_M_droughtOf_26 : decode m_M_droughtOf.2.1 26 = .ok (.aload_n 0, 1) := by decide +kernel
theorem d_M_droughtOf_27 : decode m_M_droughtOf.2.1 27 = .ok (.getfield 81, 3) := by decide +kernel
theorem d_M_droughtOf_30 : decode m_M_droughtOf.2.1 30 = .ok (.if_icmp .ge (114), 3) := by decide +kernel
theorem d_M_droughtOf_144 : decode m_M_droughtOf.2.1 144 = .ok (.iload_n 1, 1) := by decide +kernel
theorem d_M_droughtOf_145 : decode m_M_droughtOf.2.1 145 = .ok (.ireturn, 1) := by decide +kernel
theorem d_M_droughtOf_33 : decode m_M_droughtOf.2.1 33 = .ok (.iconst 0, 1) := by decide +kernel
theorem d_M_droughtOf_34 : decode m_M_droughtOf.2.1 34 = .ok (.istore_n 3, 1) := by decide +kernel
theorem d_M_droughtOf_35 : decode m_M_droughtOf.2.1 35 = .ok (.iload_n 3, 1) := by decide +kernel
theorem d_M_droughtOf_36 : decode m_M_droughtOf.2.1 36 = .ok (.iload_n 2, 1) := by decide +kernel
theorem d_M_droughtOf_37 : decode m_M_droughtOf.2.1 37 = .ok (.if_icmp .ge (101), 3) := by decide +kernel
theorem d_M_droughtOf_138 : decode m_M_droughtOf.2.1 138 = .ok (.iinc 2 (1), 3) := by decide +kernel
theorem d_M_droughtOf_141 : decode m_M_droughtOf.2.1 141 = .ok (.goto (-116), 3) := by decide +kernel
theorem d_M_droughtOf_40 : decode m_M_droughtOf.2.1 40 = .ok (.aload_n 0, 1) := by decide +kernel
theorem d_M_droughtOf_41 : decode m_M_droughtOf.2.1 41 = .ok (.getfield 37, 3) := by decide +kernel
theorem d_M_droughtOf_44 : decode m_M_droughtOf.2.1 44 = .ok (.aload_n 0, 1) := by decide +kernel
theorem d_M_droughtOf_45 : decode m_M_droughtOf.2.1 45 = .ok (.getfield 9, 3) := by decide +kernel
theorem d_M_droughtOf_48 : decode m_M_droughtOf.2.1 48 = .ok (.iload_n 2, 1) := by decide +kernel
theorem d_M_droughtOf_49 : decode m_M_droughtOf.2.1 49 = .ok (.iaload, 1) := by decide +kernel
theorem d_M_droughtOf_50 : decode m_M_droughtOf.2.1 50 = .ok (.iaload, 1) := by decide +kernel
theorem d_M_droughtOf_51 : decode m_M_droughtOf.2.1 51 = .ok (.istore 4, 2) := by decide +kernel
theorem d_M_droughtOf_53 : decode m_M_droughtOf.2.1 53 = .ok (.aload_n 0, 1) := by decide +kernel
theorem d_M_droughtOf_54 : decode m_M_droughtOf.2.1 54 = .ok (.getfield 37, 3) := by decide +kernel
theorem d_M_droughtOf_57 : decode m_M_droughtOf.2.1 57 = .ok (.aload_n 0, 1) := by decide +kernel
theorem d_M_droughtOf_58 : decode m_M_droughtOf.2.1 58 = .ok (.getfield 9, 3) := by decide +kernel
theorem d_M_droughtOf_61 : decode m_M_droughtOf.2.1 61 = .ok (.iload_n 3, 1) := by decide +kernel
theorem d_M_droughtOf_62 : decode m_M_droughtOf.2.1 62 = .ok (.iaload, 1) := by decide +kernel
theorem d_M_droughtOf_63 : decode m_M_droughtOf.2.1 63 = .ok (.iaload, 1) := by decide +kernel
theorem d_M_droughtOf_64 : decode m_M_droughtOf.2.1 64 = .ok (.istore 5, 2) := by decide +kernel
theorem d_M_droughtOf_66 : decode m_M_droughtOf.2.1 66 = .ok (.aload_n 0, 1) := by decide +kernel
theorem d_M_droughtOf_67 : decode m_M_droughtOf.2.1 67 = .ok (.iload_n 2, 1) := by decide +kernel
theorem d_M_droughtOf_68 : decode m_M_droughtOf.2.1 68 = .ok (.iload_n 3, 1) := by decide +kernel
theorem d_M_droughtOf_69 : decode m_M_droughtOf.2.1 69 = .ok (.invokevirtual 202, 3) := by decide +kernel
theorem d_M_droughtOf_72 : decode m_M_droughtOf.2.1 72 = .ok (.ifCond .eq (60), 3) := by decide +kernel
theorem d_M_droughtOf_132 : decode m_M_droughtOf.2.1 132 = .ok (.iinc 3 (1), 3) := by decide +kernel
theorem d_M_droughtOf_135 : decode m_M_droughtOf.2.1 135 = .ok (.goto (-100), 3) := by decide +kernel
theorem d_M_droughtOf_75 : decode m_M_droughtOf.2.1 75 = .ok (.iload 4, 2) := by decide +kernel
theorem d_M_droughtOf_77 : decode m_M_droughtOf.2.1 77 = .ok (.iload 5, 2) := by decide +kernel
theorem d_M_droughtOf_79 : decode m_M_droughtOf.2.1 79 = .ok (.if_icmp .eq (53), 3) := by decide +kernel
theorem d_M_droughtOf_82 : decode m_M_droughtOf.2.1 82 = .ok (.iconst 0, 1) := by decide +kernel
theorem d_M_droughtOf_83 : decode m_M_droughtOf.2.1 83 = .ok (.istore 6, 2) := by decide +kernel
theorem d_M_droughtOf_85 : decode m_M_droughtOf.2.1 85 = .ok (.iload 6, 2) := by decide +kernel
theorem d_M_droughtOf_87 : decode m_M_droughtOf.2.1 87 = .ok (.bipush (8), 2) := by decide +kernel
theorem d_M_droughtOf_89 : decode m_M_droughtOf.2.1 89 = .ok (.if_icmp .ge (40), 3) := by decide +kernel
theorem d_M_droughtOf_129 : decode m_M_droughtOf.2.1 129 = .ok (.iinc 1 (1), 3) := by decide +kernel
theorem d_M_droughtOf_92 : decode m_M_droughtOf.2.1 92 = .ok (.aload_n 0, 1) := by decide +kernel
theorem d_M_droughtOf_93 : decode m_M_droughtOf.2.1 93 = .ok (.getfield 37, 3) := by decide +kernel
theorem d_M_droughtOf_96 : decode m_M_droughtOf.2.1 96 = .ok (.iload 6, 2) := by decide +kernel
theorem d_M_droughtOf_98 : decode m_M_droughtOf.2.1 98 = .ok (.aload_n 0, 1) := by decide +kernel
theorem d_M_droughtOf_99 : decode m_M_droughtOf.2.1 99 = .ok (.getfield 37, 3) := by decide +kernel
theorem d_M_droughtOf_102 : decode m_M_droughtOf.2.1 102 = .ok (.iload 6, 2) := by decide +kernel
theorem d_M_droughtOf_104 : decode m_M_droughtOf.2.1 104 = .ok (.iaload, 1) := by decide +kernel
theorem d_M_droughtOf_105 : decode m_M_droughtOf.2.1 105 = .ok (.iload 4, 2) := by decide +kernel
theorem d_M_droughtOf_107 : decode m_M_droughtOf.2.1 107 = .ok (.if_icmp .ne (8), 3) := by decide +kernel
theorem d_M_droughtOf_110 : decode m_M_droughtOf.2.1 110 = .ok (.iload 5, 2) := by decide +kernel
theorem d_M_droughtOf_112 : decode m_M_droughtOf.2.1 112 = .ok (.goto (10), 3) := by decide +kernel
theorem d_M_droughtOf_122 : decode m_M_droughtOf.2.1 122 = .ok (.iastore, 1) := by decide +kernel
theorem d_M_droughtOf_123 : decode m_M_droughtOf.2.1 123 = .ok (.iinc 6 (1), 3) := by decide +kernel
theorem d_M_droughtOf_126 : decode m_M_droughtOf.2.1 126 = .ok (.goto (-41), 3) := by decide +kernel
theorem d_M_droughtOf_115 : decode m_M_droughtOf.2.1 115 = .ok (.aload_n 0, 1) := by decide +kernel
theorem d_M_droughtOf_116 : decode m_M_droughtOf.2.1 116 = .ok (.getfield 37, 3) := by decide +kernel
theorem d_M_droughtOf_119 : decode m_M_droughtOf.2.1 119 = .ok (.iload 6, 2) := by decide +kernel
theorem d_M_droughtOf_121 : decode m_M_droughtOf.2.1 121 = .ok (.iaload, 1) := by decide +kernel
theorem d_M_droughtOf_8 : decode m_M_droughtOf.2.1 8 = .ok (.aload_n 0, 1) := by decide +kernel
theorem d_M_droughtOf_9 : decode m_M_droughtOf.2.1 9 = .ok (.getfield 37, 3) := by decide +kernel
theorem d_M_droughtOf_12 : decode m_M_droughtOf.2.1 12 = .ok (.iload_n 1, 1) := by decide +kernel
theorem d_M_droughtOf_13 : decode m_M_droughtOf.2.1 13 = .ok (.iload_n 1, 1) := by decide +kernel
theorem d_M_droughtOf_14 : decode m_M_droughtOf.2.1 14 = .ok (.iastore, 1) := by decide +kernel
theorem d_M_droughtOf_15 : decode m_M_droughtOf.2.1 15 = .ok (.iinc 1 (1), 3) := by decide +kernel
theorem d_M_droughtOf_18 : decode m_M_droughtOf.2.1 18 = .ok (.goto (-16), 3) := by decide +kernel
theorem d_M_aloneOf_0 : decode m_M_aloneOf.2.1 0 = .ok (.iconst 0, 1) := by decide +kernel
theorem d_M_aloneOf_1 : decode m_M_aloneOf.2.1 1 = .ok (.istore_n 1, 1) := by decide +kernel
theorem d_M_aloneOf_2 : decode m_M_aloneOf.2.1 2 = .ok (.iload_n 1, 1) := by decide +kernel
theorem d_M_aloneOf_3 : decode m_M_aloneOf.2.1 3 = .ok (.bipush (6), 2) := by decide +kernel
theorem d_M_aloneOf_5 : decode m_M_aloneOf.2.1 5 = .ok (.if_icmp .ge (16), 3) := by decide +kernel
theorem d_M_aloneOf_21 : decode m_M_aloneOf.2.1 21 = .ok (.iconst 0, 1) := by decide +kernel
theorem d_M_aloneOf_22 : decode m_M_aloneOf.2.1 22 = .ok (.istore_n 1, 1) := by decide +kernel
theorem d_M_aloneOf_23 : decode m_M_aloneOf.2.1 23 = .ok (.iload_n 1, 1) := by decide +kernel
theorem d_M_aloneOf_24 : decode m_M_aloneOf.2.1 24 = .ok (.aload_n 0, 1) := by decide +kernel
theorem d_M_aloneOf_25 : decode m_M_aloneOf.2.1 25 = .ok (.getfield 81, 3) := by decide +kernel
theorem d_M_aloneOf_28 : decode m_M_aloneOf.2.1 28 = .ok (.if_icmp .ge (50), 3) := by decide +kernel
theorem d_M_aloneOf_78 : decode m_M_aloneOf.2.1 78 = .ok (.iconst 0, 1) := by decide +kernel
theorem d_M_aloneOf_79 : decode m_M_aloneOf.2.1 79 = .ok (.istore_n 1, 1) := by decide +kernel
theorem d_M_aloneOf_80 : decode m_M_aloneOf.2.1 80 = .ok (.iconst 0, 1) := by decide +kernel
theorem d_M_aloneOf_81 : decode m_M_aloneOf.2.1 81 = .ok (.istore_n 2, 1) := by decide +kernel
theorem d_M_aloneOf_82 : decode m_M_aloneOf.2.1 82 = .ok (.iload_n 2, 1) := by decide +kernel
theorem d_M_aloneOf_83 : decode m_M_aloneOf.2.1 83 = .ok (.bipush (6), 2) := by decide +kernel
theorem d_M_aloneOf_85 : decode m_M_aloneOf.2.1 85 = .ok (.if_icmp .ge (29), 3) := by decide +kernel
theorem d_M_aloneOf_114 : decode m_M_aloneOf.2.1 114 = .ok (.iload_n 1, 1) := by decide +kernel
theorem d_M_aloneOf_115 : decode m_M_aloneOf.2.1 115 = .ok (.ireturn, 1) := by decide +kernel
theorem d_M_aloneOf_88 : decode m_M_aloneOf.2.1 88 = .ok (.iload_n 1, 1) := by decide +kernel
theorem d_M_aloneOf_89 : decode m_M_aloneOf.2.1 89 = .ok (.aload_n 0, 1) := by decide +kernel
theorem d_M_aloneOf_90 : decode m_M_aloneOf.2.1 90 = .ok (.getfield 40, 3) := by decide +kernel
theorem d_M_aloneOf_93 : decode m_M_aloneOf.2.1 93 = .ok (.iload_n 2, 1) := by decide +kernel
theorem d_M_aloneOf_94 : decode m_M_aloneOf.2.1 94 = .ok (.iaload, 1) := by decide +kernel
theorem d_M_aloneOf_95 : decode m_M_aloneOf.2.1 95 = .ok (.iconst 1, 1) := by decide +kernel
theorem d_M_aloneOf_96 : decode m_M_aloneOf.2.1 96 = .ok (.if_icmp .ne (9), 3) := by decide +kernel
theorem d_M_aloneOf_99 : decode m_M_aloneOf.2.1 99 = .ok (.iconst 1, 1) := by decide +kernel
theorem d_M_aloneOf_100 : decode m_M_aloneOf.2.1 100 = .ok (.iload_n 2, 1) := by decide +kernel
theorem d_M_aloneOf_101 : decode m_M_aloneOf.2.1 101 = .ok (.ishl, 1) := by decide +kernel
theorem d_M_aloneOf_102 : decode m_M_aloneOf.2.1 102 = .ok (.goto (4), 3) := by decide +kernel
theorem d_M_aloneOf_106 : decode m_M_aloneOf.2.1 106 = .ok (.ior, 1) := by decide +kernel
theorem d_M_aloneOf_107 : decode m_M_aloneOf.2.1 107 = .ok (.istore_n 1, 1) := by decide +kernel
theorem d_M_aloneOf_108 : decode m_M_aloneOf.2.1 108 = .ok (.iinc 2 (1), 3) := by decide +kernel
theorem d_M_aloneOf_111 : decode m_M_aloneOf.2.1 111 = .ok (.goto (-29), 3) := by decide +kernel
theorem d_M_aloneOf_105 : decode m_M_aloneOf.2.1 105 = .ok (.iconst 0, 1) := by decide +kernel
theorem d_M_aloneOf_31 : decode m_M_aloneOf.2.1 31 = .ok (.iconst 0, 1) := by decide +kernel
theorem d_M_aloneOf_32 : decode m_M_aloneOf.2.1 32 = .ok (.istore_n 2, 1) := by decide +kernel
theorem d_M_aloneOf_33 : decode m_M_aloneOf.2.1 33 = .ok (.iload_n 2, 1) := by decide +kernel
theorem d_M_aloneOf_34 : decode m_M_aloneOf.2.1 34 = .ok (.iload_n 1, 1) := by decide +kernel
theorem d_M_aloneOf_35 : decode m_M_aloneOf.2.1 35 = .ok (.if_icmp .ge (37), 3) := by decide +kernel
theorem d_M_aloneOf_72 : decode m_M_aloneOf.2.1 72 = .ok (.iinc 1 (1), 3) := by decide +kernel
theorem d_M_aloneOf_75 : decode m_M_aloneOf.2.1 75 = .ok (.goto (-52), 3) := by decide +kernel
theorem d_M_aloneOf_38 : decode m_M_aloneOf.2.1 38 = .ok (.aload_n 0, 1) := by decide +kernel
theorem d_M_aloneOf_39 : decode m_M_aloneOf.2.1 39 = .ok (.getfield 40, 3) := by decide +kernel
theorem d_M_aloneOf_42 : decode m_M_aloneOf.2.1 42 = .ok (.aload_n 0, 1) := by decide +kernel
theorem d_M_aloneOf_43 : decode m_M_aloneOf.2.1 43 = .ok (.iload_n 1, 1) := by decide +kernel
theorem d_M_aloneOf_44 : decode m_M_aloneOf.2.1 44 = .ok (.iload_n 2, 1) := by decide +kernel
theorem d_M_aloneOf_45 : decode m_M_aloneOf.2.1 45 = .ok (.invokevirtual 205, 3) := by decide +kernel
theorem d_M_aloneOf_48 : decode m_M_aloneOf.2.1 48 = .ok (.dup2, 1) := by decide +kernel
theorem d_M_aloneOf_49 : decode m_M_aloneOf.2.1 49 = .ok (.iaload, 1) := by decide +kernel
theorem d_M_aloneOf_50 : decode m_M_aloneOf.2.1 50 = .ok (.aload_n 0, 1) := by decide +kernel
theorem d_M_aloneOf_51 : decode m_M_aloneOf.2.1 51 = .ok (.iload_n 1, 1) := by decide +kernel
theorem d_M_aloneOf_52 : decode m_M_aloneOf.2.1 52 = .ok (.iload_n 2, 1) := by decide +kernel
theorem d_M_aloneOf_53 : decode m_M_aloneOf.2.1 53 = .ok (.invokevirtual 202, 3) := by decide +kernel
theorem d_M_aloneOf_56 : decode m_M_aloneOf.2.1 56 = .ok (.ifCond .eq (7), 3) := by decide +kernel
theorem d_M_aloneOf_63 : decode m_M_aloneOf.2.1 63 = .ok (.iconst 0, 1) := by decide +kernel
theorem d_M_aloneOf_64 : decode m_M_aloneOf.2.1 64 = .ok (.iadd, 1) := by decide +kernel
theorem d_M_aloneOf_65 : decode m_M_aloneOf.2.1 65 = .ok (.iastore, 1) := by decide +kernel
theorem d_M_aloneOf_66 : decode m_M_aloneOf.2.1 66 = .ok (.iinc 2 (1), 3) := by decide +kernel
theorem d_M_aloneOf_69 : decode m_M_aloneOf.2.1 69 = .ok (.goto (-36), 3) := by decide +kernel
theorem d_M_aloneOf_59 : decode m_M_aloneOf.2.1 59 = .ok (.iconst 1, 1) := by decide +kernel
theorem d_M_aloneOf_60 : decode m_M_aloneOf.2.1 60 = .ok (.goto (4), 3) := by decide +kernel
theorem d_M_aloneOf_8 : decode m_M_aloneOf.2.1 8 = .ok (.aload_n 0, 1) := by decide +kernel
theorem d_M_aloneOf_9 : decode m_M_aloneOf.2.1 9 = .ok (.getfield 40, 3) := by decide +kernel
theorem d_M_aloneOf_12 : decode m_M_aloneOf.2.1 12 = .ok (.iload_n 1, 1) := by decide +kernel
theorem d_M_aloneOf_13 : decode m_M_aloneOf.2.1 13 = .ok (.iconst 0, 1) := by decide +kernel
theorem d_M_aloneOf_14 : decode m_M_aloneOf.2.1 14 = .ok (.iastore, 1) := by decide +kernel
theorem d_M_aloneOf_15 : decode m_M_aloneOf.2.1 15 = .ok (.iinc 1 (1), 3) := by decide +kernel
theorem d_M_aloneOf_18 : decode m_M_aloneOf.2.1 18 = .ok (.goto (-16), 3) := by decide +kernel
theorem d_M_pairs_0 : decode m_M_pairs.2.1 0 = .ok (.iload_n 1, 1) := by decide +kernel
theorem d_M_pairs_1 : decode m_M_pairs.2.1 1 = .ok (.i2l, 1) := by decide +kernel
theorem d_M_pairs_2 : decode m_M_pairs.2.1 2 = .ok (.lconst 0, 1) := by decide +kernel
theorem d_M_pairs_3 : decode m_M_pairs.2.1 3 = .ok (.ldc2_w 122, 3) := by decide +kernel
theorem d_M_pairs_6 : decode m_M_pairs.2.1 6 = .ok (.invokestatic 84, 3) := by decide +kernel
theorem d_M_pairs_9 : decode m_M_pairs.2.1 9 = .ok (.ifCond .ne (5), 3) := by decide +kernel
theorem d_M_pairs_12 : decode m_M_pairs.2.1 12 = .ok (.iconst (-1), 1) := by decide +kernel
theorem d_M_pairs_13 : decode m_M_pairs.2.1 13 = .ok (.ireturn, 1) := by decide +kernel
theorem d_M_pairs_14 : decode m_M_pairs.2.1 14 = .ok (.aload_n 0, 1) := by decide +kernel
theorem d_M_pairs_15 : decode m_M_pairs.2.1 15 = .ok (.invokevirtual 208, 3) := by decide +kernel
theorem d_M_pairs_18 : decode m_M_pairs.2.1 18 = .ok (.iload_n 1, 1) := by decide +kernel
theorem d_M_pairs_19 : decode m_M_pairs.2.1 19 = .ok (.ifCond .ne (10), 3) := by decide +kernel
theorem d_M_pairs_22 : decode m_M_pairs.2.1 22 = .ok (.aload_n 0, 1) := by decide +kernel
theorem d_M_pairs_23 : decode m_M_pairs.2.1 23 = .ok (.invokevirtual 235, 3) := by decide +kernel
theorem d_M_pairs_26 : decode m_M_pairs.2.1 26 = .ok (.goto (19), 3) := by decide +kernel
theorem d_M_pairs_45 : decode m_M_pairs.2.1 45 = .ok (.ireturn, 1) := by decide +kernel
theorem d_M_pairs_29 : decode m_M_pairs.2.1 29 = .ok (.iload_n 1, 1) := by decide +kernel
theorem d_M_pairs_30 : decode m_M_pairs.2.1 30 = .ok (.iconst 1, 1) := by decide +kernel
theorem d_M_pairs_31 : decode m_M_pairs.2.1 31 = .ok (.if_icmp .ne (10), 3) := by decide +kernel
theorem d_M_pairs_34 : decode m_M_pairs.2.1 34 = .ok (.aload_n 0, 1) := by decide +kernel
theorem d_M_pairs_35 : decode m_M_pairs.2.1 35 = .ok (.invokevirtual 238, 3) := by decide +kernel
theorem d_M_pairs_38 : decode m_M_pairs.2.1 38 = .ok (.goto (7), 3) := by decide +kernel
theorem d_M_pairs_41 : decode m_M_pairs.2.1 41 = .ok (.aload_n 0, 1) := by decide +kernel
theorem d_M_pairs_42 : decode m_M_pairs.2.1 42 = .ok (.invokevirtual 241, 3) := by decide +kernel
theorem d_M_strangers_0 : decode m_M_strangers.2.1 0 = .ok (.iload_n 1, 1) := by decide +kernel
theorem d_M_strangers_1 : decode m_M_strangers.2.1 1 = .ok (.i2l, 1) := by decide +kernel
theorem d_M_strangers_2 : decode m_M_strangers.2.1 2 = .ok (.invokestatic 119, 3) := by decide +kernel
theorem d_M_strangers_5 : decode m_M_strangers.2.1 5 = .ok (.ifCond .ne (5), 3) := by decide +kernel
theorem d_M_strangers_8 : decode m_M_strangers.2.1 8 = .ok (.iconst (-1), 1) := by decide +kernel
theorem d_M_strangers_9 : decode m_M_strangers.2.1 9 = .ok (.ireturn, 1) := by decide +kernel
theorem d_M_strangers_10 : decode m_M_strangers.2.1 10 = .ok (.aload_n 0, 1) := by decide +kernel
theorem d_M_strangers_11 : decode m_M_strangers.2.1 11 = .ok (.invokevirtual 208, 3) := by decide +kernel
theorem d_M_strangers_14 : decode m_M_strangers.2.1 14 = .ok (.aload_n 0, 1) := by decide +kernel
theorem d_M_strangers_15 : decode m_M_strangers.2.1 15 = .ok (.aload_n 0, 1) := by decide +kernel
theorem d_M_strangers_16 : decode m_M_strangers.2.1 16 = .ok (.invokevirtual 211, 3) := by decide +kernel
theorem d_M_strangers_19 : decode m_M_strangers.2.1 19 = .ok (.invokevirtual 214, 3) := by decide +kernel
theorem d_M_strangers_22 : decode m_M_strangers.2.1 22 = .ok (.iload_n 1, 1) := by decide +kernel
theorem d_M_strangers_23 : decode m_M_strangers.2.1 23 = .ok (.invokestatic 199, 3) := by decide +kernel
theorem d_M_strangers_26 : decode m_M_strangers.2.1 26 = .ok (.ifCond .eq (5), 3) := by decide +kernel
theorem d_M_strangers_31 : decode m_M_strangers.2.1 31 = .ok (.iconst 0, 1) := by decide +kernel
theorem d_M_strangers_32 : decode m_M_strangers.2.1 32 = .ok (.istore_n 2, 1) := by decide +kernel
theorem d_M_strangers_33 : decode m_M_strangers.2.1 33 = .ok (.iload_n 2, 1) := by decide +kernel
theorem d_M_strangers_34 : decode m_M_strangers.2.1 34 = .ok (.aload_n 0, 1) := by decide +kernel
theorem d_M_strangers_35 : decode m_M_strangers.2.1 35 = .ok (.getfield 81, 3) := by decide +kernel
theorem d_M_strangers_38 : decode m_M_strangers.2.1 38 = .ok (.if_icmp .ge (39), 3) := by decide +kernel
theorem d_M_strangers_77 : decode m_M_strangers.2.1 77 = .ok (.iconst 2, 1) := by decide +kernel
theorem d_M_strangers_78 : decode m_M_strangers.2.1 78 = .ok (.ireturn, 1) := by decide +kernel
theorem d_M_strangers_41 : decode m_M_strangers.2.1 41 = .ok (.aload_n 0, 1) := by decide +kernel
theorem d_M_strangers_42 : decode m_M_strangers.2.1 42 = .ok (.getfield 31, 3) := by decide +kernel
theorem d_M_strangers_45 : decode m_M_strangers.2.1 45 = .ok (.iload_n 2, 1) := by decide +kernel
theorem d_M_strangers_46 : decode m_M_strangers.2.1 46 = .ok (.iaload, 1) := by decide +kernel
theorem d_M_strangers_47 : decode m_M_strangers.2.1 47 = .ok (.iload_n 1, 1) := by decide +kernel
theorem d_M_strangers_48 : decode m_M_strangers.2.1 48 = .ok (.if_icmp .lt (23), 3) := by decide +kernel
theorem d_M_strangers_71 : decode m_M_strangers.2.1 71 = .ok (.iinc 2 (1), 3) := by decide +kernel
theorem d_M_strangers_74 : decode m_M_strangers.2.1 74 = .ok (.goto (-41), 3) := by decide +kernel
theorem d_M_strangers_51 : decode m_M_strangers.2.1 51 = .ok (.aload_n 0, 1) := by decide +kernel
theorem d_M_strangers_52 : decode m_M_strangers.2.1 52 = .ok (.getfield 31, 3) := by decide +kernel
theorem d_M_strangers_55 : decode m_M_strangers.2.1 55 = .ok (.iload_n 2, 1) := by decide +kernel
theorem d_M_strangers_56 : decode m_M_strangers.2.1 56 = .ok (.iaload, 1) := by decide +kernel
theorem d_M_strangers_57 : decode m_M_strangers.2.1 57 = .ok (.iload_n 1, 1) := by decide +kernel
theorem d_M_strangers_58 : decode m_M_strangers.2.1 58 = .ok (.isub, 1) := by decide +kernel
theorem d_M_strangers_59 : decode m_M_strangers.2.1 59 = .ok (.aload_n 0, 1) := by decide +kernel
theorem d_M_strangers_60 : decode m_M_strangers.2.1 60 = .ok (.getfield 9, 3) := by decide +kernel
theorem d_M_strangers_63 : decode m_M_strangers.2.1 63 = .ok (.bipush (41), 2) := by decide +kernel
theorem d_M_strangers_65 : decode m_M_strangers.2.1 65 = .ok (.iaload, 1) := by decide +kernel
theorem d_M_strangers_66 : decode m_M_strangers.2.1 66 = .ok (.if_icmp .gt (5), 3) := by decide +kernel
theorem d_M_strangers_69 : decode m_M_strangers.2.1 69 = .ok (.iconst 1, 1) := by decide +kernel
theorem d_M_strangers_70 : decode m_M_strangers.2.1 70 = .ok (.ireturn, 1) := by decide +kernel
theorem d_M_strangers_29 : decode m_M_strangers.2.1 29 = .ok (.iconst 0, 1) := by decide +kernel
theorem d_M_strangers_30 : decode m_M_strangers.2.1 30 = .ok (.ireturn, 1) := by decide +kernel
theorem d_M_saidMany_0 : decode m_M_saidMany.2.1 0 = .ok (.iconst 0, 1) := by decide +kernel
theorem d_M_saidMany_1 : decode m_M_saidMany.2.1 1 = .ok (.istore_n 2, 1) := by decide +kernel
theorem d_M_saidMany_2 : decode m_M_saidMany.2.1 2 = .ok (.iload_n 2, 1) := by decide +kernel
theorem d_M_saidMany_3 : decode m_M_saidMany.2.1 3 = .ok (.bipush (8), 2) := by decide +kernel
theorem d_M_saidMany_5 : decode m_M_saidMany.2.1 5 = .ok (.if_icmp .ge (64), 3) := by decide +kernel
theorem d_M_saidMany_69 : decode m_M_saidMany.2.1 69 = .ok (.iload_n 2, 1) := by decide +kernel
theorem d_M_saidMany_70 : decode m_M_saidMany.2.1 70 = .ok (.ireturn, 1) := by decide +kernel
theorem d_M_saidMany_8 : decode m_M_saidMany.2.1 8 = .ok (.iconst 2, 1) := by decide +kernel
theorem d_M_saidMany_9 : decode m_M_saidMany.2.1 9 = .ok (.iload_n 2, 1) := by decide +kernel
theorem d_M_saidMany_10 : decode m_M_saidMany.2.1 10 = .ok (.imul, 1) := by decide +kernel
theorem d_M_saidMany_11 : decode m_M_saidMany.2.1 11 = .ok (.iconst 1, 1) := by decide +kernel
theorem d_M_saidMany_12 : decode m_M_saidMany.2.1 12 = .ok (.iadd, 1) := by decide +kernel
theorem d_M_saidMany_13 : decode m_M_saidMany.2.1 13 = .ok (.aload_n 0, 1) := by decide +kernel
theorem d_M_saidMany_14 : decode m_M_saidMany.2.1 14 = .ok (.getfield 61, 3) := by decide +kernel
theorem d_M_saidMany_17 : decode m_M_saidMany.2.1 17 = .ok (.iload_n 1, 1) := by decide +kernel
theorem d_M_saidMany_18 : decode m_M_saidMany.2.1 18 = .ok (.iaload, 1) := by decide +kernel
theorem d_M_saidMany_19 : decode m_M_saidMany.2.1 19 = .ok (.if_icmp .ge (50), 3) := by decide +kernel
theorem d_M_saidMany_22 : decode m_M_saidMany.2.1 22 = .ok (.aload_n 0, 1) := by decide +kernel
theorem d_M_saidMany_23 : decode m_M_saidMany.2.1 23 = .ok (.aload_n 0, 1) := by decide +kernel
theorem d_M_saidMany_24 : decode m_M_saidMany.2.1 24 = .ok (.getfield 64, 3) := by decide +kernel
theorem d_M_saidMany_27 : decode m_M_saidMany.2.1 27 = .ok (.bipush (60), 2) := by decide +kernel
theorem d_M_saidMany_29 : decode m_M_saidMany.2.1 29 = .ok (.iload_n 1, 1) := by decide +kernel
theorem d_M_saidMany_30 : decode m_M_saidMany.2.1 30 = .ok (.imul, 1) := by decide +kernel
theorem d_M_saidMany_31 : decode m_M_saidMany.2.1 31 = .ok (.iconst 2, 1) := by decide +kernel
theorem d_M_saidMany_32 : decode m_M_saidMany.2.1 32 = .ok (.iload_n 2, 1) := by decide +kernel
theorem d_M_saidMany_33 : decode m_M_saidMany.2.1 33 = .ok (.imul, 1) := by decide +kernel
theorem d_M_saidMany_34 : decode m_M_saidMany.2.1 34 = .ok (.iadd, 1) := by decide +kernel
theorem d_M_saidMany_35 : decode m_M_saidMany.2.1 35 = .ok (.laload, 1) := by decide +kernel
theorem d_M_saidMany_36 : decode m_M_saidMany.2.1 36 = .ok (.invokevirtual 111, 3) := by decide +kernel
theorem d_M_saidMany_39 : decode m_M_saidMany.2.1 39 = .ok (.ifCond .eq (30), 3) := by decide +kernel
theorem d_M_saidMany_42 : decode m_M_saidMany.2.1 42 = .ok (.aload_n 0, 1) := by decide +kernel
theorem d_M_saidMany_43 : decode m_M_saidMany.2.1 43 = .ok (.getfield 64, 3) := by decide +kernel
theorem d_M_saidMany_46 : decode m_M_saidMany.2.1 46 = .ok (.bipush (60), 2) := by decide +kernel
theorem d_M_saidMany_48 : decode m_M_saidMany.2.1 48 = .ok (.iload_n 1, 1) := by decide +kernel
theorem d_M_saidMany_49 : decode m_M_saidMany.2.1 49 = .ok (.imul, 1) := by decide +kernel
theorem d_M_saidMany_50 : decode m_M_saidMany.2.1 50 = .ok (.iconst 2, 1) := by decide +kernel
theorem d_M_saidMany_51 : decode m_M_saidMany.2.1 51 = .ok (.iload_n 2, 1) := by decide +kernel
theorem d_M_saidMany_52 : decode m_M_saidMany.2.1 52 = .ok (.imul, 1) := by decide +kernel
theorem d_M_saidMany_53 : decode m_M_saidMany.2.1 53 = .ok (.iadd, 1) := by decide +kernel
theorem d_M_saidMany_54 : decode m_M_saidMany.2.1 54 = .ok (.iconst 1, 1) := by decide +kernel
theorem d_M_saidMany_55 : decode m_M_saidMany.2.1 55 = .ok (.iadd, 1) := by decide +kernel
theorem d_M_saidMany_56 : decode m_M_saidMany.2.1 56 = .ok (.laload, 1) := by decide +kernel
theorem d_M_saidMany_57 : decode m_M_saidMany.2.1 57 = .ok (.invokestatic 119, 3) := by decide +kernel
theorem d_M_saidMany_60 : decode m_M_saidMany.2.1 60 = .ok (.ifCond .eq (9), 3) := by decide +kernel
theorem d_M_saidMany_63 : decode m_M_saidMany.2.1 63 = .ok (.iinc 2 (1), 3) := by decide +kernel
theorem d_M_saidMany_66 : decode m_M_saidMany.2.1 66 = .ok (.goto (-64), 3) := by decide +kernel
theorem d_M_weightOf_0 : decode m_M_weightOf.2.1 0 = .ok (.lconst 1, 1) := by decide +kernel
theorem d_M_weightOf_1 : decode m_M_weightOf.2.1 1 = .ok (.lstore_n 3, 1) := by decide +kernel
theorem d_M_weightOf_2 : decode m_M_weightOf.2.1 2 = .ok (.iconst 0, 1) := by decide +kernel
theorem d_M_weightOf_3 : decode m_M_weightOf.2.1 3 = .ok (.istore 5, 2) := by decide +kernel
theorem d_M_weightOf_5 : decode m_M_weightOf.2.1 5 = .ok (.iload 5, 2) := by decide +kernel
theorem d_M_weightOf_7 : decode m_M_weightOf.2.1 7 = .ok (.aload_n 0, 1) := by decide +kernel
theorem d_M_weightOf_8 : decode m_M_weightOf.2.1 8 = .ok (.iload_n 1, 1) := by decide +kernel
theorem d_M_weightOf_9 : decode m_M_weightOf.2.1 9 = .ok (.invokevirtual 244, 3) := by decide +kernel
theorem d_M_weightOf_12 : decode m_M_weightOf.2.1 12 = .ok (.if_icmp .ge (73), 3) := by decide +kernel
theorem d_M_weightOf_85 : decode m_M_weightOf.2.1 85 = .ok (.lload_n 3, 1) := by decide +kernel
theorem d_M_weightOf_86 : decode m_M_weightOf.2.1 86 = .ok (.lreturn, 1) := by decide +kernel
theorem d_M_weightOf_15 : decode m_M_weightOf.2.1 15 = .ok (.aload_n 0, 1) := by decide +kernel
theorem d_M_weightOf_16 : decode m_M_weightOf.2.1 16 = .ok (.getfield 9, 3) := by decide +kernel
theorem d_M_weightOf_19 : decode m_M_weightOf.2.1 19 = .ok (.bipush (10), 2) := by decide +kernel
theorem d_M_weightOf_21 : decode m_M_weightOf.2.1 21 = .ok (.aload_n 0, 1) := by decide +kernel
theorem d_M_weightOf_22 : decode m_M_weightOf.2.1 22 = .ok (.getfield 64, 3) := by decide +kernel
theorem d_M_weightOf_25 : decode m_M_weightOf.2.1 25 = .ok (.bipush (60), 2) := by decide +kernel
theorem d_M_weightOf_27 : decode m_M_weightOf.2.1 27 = .ok (.iload_n 1, 1) := by decide +kernel
theorem d_M_weightOf_28 : decode m_M_weightOf.2.1 28 = .ok (.imul, 1) := by decide +kernel
theorem d_M_weightOf_29 : decode m_M_weightOf.2.1 29 = .ok (.iconst 2, 1) := by decide +kernel
theorem d_M_weightOf_30 : decode m_M_weightOf.2.1 30 = .ok (.iload 5, 2) := by decide +kernel
theorem d_M_weightOf_32 : decode m_M_weightOf.2.1 32 = .ok (.imul, 1) := by decide +kernel
theorem d_M_weightOf_33 : decode m_M_weightOf.2.1 33 = .ok (.iadd, 1) := by decide +kernel
theorem d_M_weightOf_34 : decode m_M_weightOf.2.1 34 = .ok (.laload, 1) := by decide +kernel
theorem d_M_weightOf_35 : decode m_M_weightOf.2.1 35 = .ok (.l2i, 1) := by decide +kernel
theorem d_M_weightOf_36 : decode m_M_weightOf.2.1 36 = .ok (.iadd, 1) := by decide +kernel
theorem d_M_weightOf_37 : decode m_M_weightOf.2.1 37 = .ok (.iaload, 1) := by decide +kernel
theorem d_M_weightOf_38 : decode m_M_weightOf.2.1 38 = .ok (.istore 6, 2) := by decide +kernel
theorem d_M_weightOf_40 : decode m_M_weightOf.2.1 40 = .ok (.lload_n 3, 1) := by decide +kernel
theorem d_M_weightOf_41 : decode m_M_weightOf.2.1 41 = .ok (.aload_n 0, 1) := by decide +kernel
theorem d_M_weightOf_42 : decode m_M_weightOf.2.1 42 = .ok (.getfield 64, 3) := by decide +kernel
theorem d_M_weightOf_45 : decode m_M_weightOf.2.1 45 = .ok (.bipush (60), 2) := by decide +kernel
theorem d_M_weightOf_47 : decode m_M_weightOf.2.1 47 = .ok (.iload_n 1, 1) := by decide +kernel
theorem d_M_weightOf_48 : decode m_M_weightOf.2.1 48 = .ok (.imul, 1) := by decide +kernel
theorem d_M_weightOf_49 : decode m_M_weightOf.2.1 49 = .ok (.iconst 2, 1) := by decide +kernel
theorem d_M_weightOf_50 : decode m_M_weightOf.2.1 50 = .ok (.iload 5, 2) := by decide +kernel
theorem d_M_weightOf_52 : decode m_M_weightOf.2.1 52 = .ok (.imul, 1) := by decide +kernel
theorem d_M_weightOf_53 : decode m_M_weightOf.2.1 53 = .ok (.iadd, 1) := by decide +kernel
theorem d_M_weightOf_54 : decode m_M_weightOf.2.1 54 = .ok (.iconst 1, 1) := by decide +kernel
theorem d_M_weightOf_55 : decode m_M_weightOf.2.1 55 = .ok (.iadd, 1) := by decide +kernel
theorem d_M_weightOf_56 : decode m_M_weightOf.2.1 56 = .ok (.laload, 1) := by decide +kernel
theorem d_M_weightOf_57 : decode m_M_weightOf.2.1 57 = .ok (.iload_n 2, 1) := by decide +kernel
theorem d_M_weightOf_58 : decode m_M_weightOf.2.1 58 = .ok (.i2l, 1) := by decide +kernel
theorem d_M_weightOf_59 : decode m_M_weightOf.2.1 59 = .ok (.lcmp, 1) := by decide +kernel
theorem d_M_weightOf_60 : decode m_M_weightOf.2.1 60 = .ok (.ifCond .ne (11), 3) := by decide +kernel
theorem d_M_weightOf_63 : decode m_M_weightOf.2.1 63 = .ok (.iconst 5, 1) := by decide +kernel
theorem d_M_weightOf_64 : decode m_M_weightOf.2.1 64 = .ok (.iload 6, 2) := by decide +kernel
theorem d_M_weightOf_66 : decode m_M_weightOf.2.1 66 = .ok (.imul, 1) := by decide +kernel
theorem d_M_weightOf_67 : decode m_M_weightOf.2.1 67 = .ok (.i2l, 1) := by decide +kernel
theorem d_M_weightOf_68 : decode m_M_weightOf.2.1 68 = .ok (.goto (9), 3) := by decide +kernel
theorem d_M_weightOf_77 : decode m_M_weightOf.2.1 77 = .ok (.lmul, 1) := by decide +kernel
theorem d_M_weightOf_78 : decode m_M_weightOf.2.1 78 = .ok (.lstore_n 3, 1) := by decide +kernel
theorem d_M_weightOf_79 : decode m_M_weightOf.2.1 79 = .ok (.iinc 5 (1), 3) := by decide +kernel
theorem d_M_weightOf_82 : decode m_M_weightOf.2.1 82 = .ok (.goto (-77), 3) := by decide +kernel
theorem d_M_weightOf_71 : decode m_M_weightOf.2.1 71 = .ok (.bipush (12), 2) := by decide +kernel
theorem d_M_weightOf_73 : decode m_M_weightOf.2.1 73 = .ok (.iload 6, 2) := by decide +kernel
theorem d_M_weightOf_75 : decode m_M_weightOf.2.1 75 = .ok (.isub, 1) := by decide +kernel
theorem d_M_weightOf_76 : decode m_M_weightOf.2.1 76 = .ok (.i2l, 1) := by decide +kernel
theorem d_M_likely_0 : decode m_M_likely.2.1 0 = .ok (.aload_n 0, 1) := by decide +kernel
theorem d_M_likely_1 : decode m_M_likely.2.1 1 = .ok (.iload_n 1, 1) := by decide +kernel
theorem d_M_likely_2 : decode m_M_likely.2.1 2 = .ok (.invokevirtual 220, 3) := by decide +kernel
theorem d_M_likely_5 : decode m_M_likely.2.1 5 = .ok (.ifCond .lt (21), 3) := by decide +kernel
theorem d_M_likely_26 : decode m_M_likely.2.1 26 = .ok (.ldc2_w 249, 3) := by decide +kernel
theorem d_M_likely_29 : decode m_M_likely.2.1 29 = .ok (.lreturn, 1) := by decide +kernel
theorem d_M_likely_8 : decode m_M_likely.2.1 8 = .ok (.iload_n 2, 1) := by decide +kernel
theorem d_M_likely_9 : decode m_M_likely.2.1 9 = .ok (.i2l, 1) := by decide +kernel
theorem d_M_likely_10 : decode m_M_likely.2.1 10 = .ok (.invokestatic 119, 3) := by decide +kernel
theorem d_M_likely_13 : decode m_M_likely.2.1 13 = .ok (.ifCond .eq (13), 3) := by decide +kernel
theorem d_M_likely_16 : decode m_M_likely.2.1 16 = .ok (.iload_n 3, 1) := by decide +kernel
theorem d_M_likely_17 : decode m_M_likely.2.1 17 = .ok (.i2l, 1) := by decide +kernel
theorem d_M_likely_18 : decode m_M_likely.2.1 18 = .ok (.lconst 0, 1) := by decide +kernel
theorem d_M_likely_19 : decode m_M_likely.2.1 19 = .ok (.lconst 1, 1) := by decide +kernel
theorem d_M_likely_20 : decode m_M_likely.2.1 20 = .ok (.invokestatic 84, 3) := by decide +kernel
theorem d_M_likely_23 : decode m_M_likely.2.1 23 = .ok (.ifCond .ne (7), 3) := by decide +kernel
theorem d_M_likely_30 : decode m_M_likely.2.1 30 = .ok (.aload_n 0, 1) := by decide +kernel
theorem d_M_likely_31 : decode m_M_likely.2.1 31 = .ok (.iload_n 1, 1) := by decide +kernel
theorem d_M_likely_32 : decode m_M_likely.2.1 32 = .ok (.iload_n 2, 1) := by decide +kernel
theorem d_M_likely_33 : decode m_M_likely.2.1 33 = .ok (.invokevirtual 251, 3) := by decide +kernel
theorem d_M_likely_36 : decode m_M_likely.2.1 36 = .ok (.lstore 4, 2) := by decide +kernel
theorem d_M_likely_38 : decode m_M_likely.2.1 38 = .ok (.lload 4, 2) := by decide +kernel
theorem d_M_likely_40 : decode m_M_likely.2.1 40 = .ok (.lconst 0, 1) := by decide +kernel
theorem d_M_likely_41 : decode m_M_likely.2.1 41 = .ok (.lcmp, 1) := by decide +kernel
theorem d_M_likely_42 : decode m_M_likely.2.1 42 = .ok (.ifCond .ne (6), 3) := by decide +kernel
theorem d_M_likely_45 : decode m_M_likely.2.1 45 = .ok (.iload_n 3, 1) := by decide +kernel
theorem d_M_likely_46 : decode m_M_likely.2.1 46 = .ok (.i2l, 1) := by decide +kernel
theorem d_M_likely_47 : decode m_M_likely.2.1 47 = .ok (.lreturn, 1) := by decide +kernel
theorem d_M_likely_48 : decode m_M_likely.2.1 48 = .ok (.lconst 0, 1) := by decide +kernel
theorem d_M_likely_49 : decode m_M_likely.2.1 49 = .ok (.lstore 6, 2) := by decide +kernel
theorem d_M_likely_51 : decode m_M_likely.2.1 51 = .ok (.iconst 0, 1) := by decide +kernel
theorem d_M_likely_52 : decode m_M_likely.2.1 52 = .ok (.istore 8, 2) := by decide +kernel
theorem d_M_likely_54 : decode m_M_likely.2.1 54 = .ok (.iload 8, 2) := by decide +kernel
theorem d_M_likely_56 : decode m_M_likely.2.1 56 = .ok (.bipush (6), 2) := by decide +kernel
theorem d_M_likely_58 : decode m_M_likely.2.1 58 = .ok (.if_icmp .ge (21), 3) := by decide +kernel
theorem d_M_likely_79 : decode m_M_likely.2.1 79 = .ok (.lload 4, 2) := by decide +kernel
theorem d_M_likely_81 : decode m_M_likely.2.1 81 = .ok (.lstore 8, 2) := by decide +kernel
theorem d_M_likely_83 : decode m_M_likely.2.1 83 = .ok (.lload 6, 2) := by decide +kernel
theorem d_M_likely_85 : decode m_M_likely.2.1 85 = .ok (.lstore 10, 2) := by decide +kernel
theorem d_M_likely_87 : decode m_M_likely.2.1 87 = .ok (.lload 10, 2) := by decide +kernel
theorem d_M_likely_89 : decode m_M_likely.2.1 89 = .ok (.lconst 0, 1) := by decide +kernel
theorem d_M_likely_90 : decode m_M_likely.2.1 90 = .ok (.lcmp, 1) := by decide +kernel
theorem d_M_likely_91 : decode m_M_likely.2.1 91 = .ok (.ifCond .eq (21), 3) := by decide +kernel
theorem d_M_likely_112 : decode m_M_likely.2.1 112 = .ok (.iload_n 3, 1) := by decide +kernel
theorem d_M_likely_113 : decode m_M_likely.2.1 113 = .ok (.ifCond .ne (11), 3) := by decide +kernel
theorem d_M_likely_116 : decode m_M_likely.2.1 116 = .ok (.lload 4, 2) := by decide +kernel
theorem d_M_likely_118 : decode m_M_likely.2.1 118 = .ok (.lload 8, 2) := by decide +kernel
theorem d_M_likely_120 : decode m_M_likely.2.1 120 = .ok (.ldiv, 1) := by decide +kernel
theorem d_M_likely_121 : decode m_M_likely.2.1 121 = .ok (.goto (8), 3) := by decide +kernel
theorem d_M_likely_129 : decode m_M_likely.2.1 129 = .ok (.lreturn, 1) := by decide +kernel
theorem d_M_likely_124 : decode m_M_likely.2.1 124 = .ok (.lload 6, 2) := by decide +kernel
theorem d_M_likely_126 : decode m_M_likely.2.1 126 = .ok (.lload 8, 2) := by decide +kernel
theorem d_M_likely_128 : decode m_M_likely.2.1 128 = .ok (.ldiv, 1) := by decide +kernel
theorem d_M_likely_94 : decode m_M_likely.2.1 94 = .ok (.lload 8, 2) := by decide +kernel
theorem d_M_likely_96 : decode m_M_likely.2.1 96 = .ok (.lload 10, 2) := by decide +kernel
theorem d_M_likely_98 : decode m_M_likely.2.1 98 = .ok (.lrem, 1) := by decide +kernel
theorem d_M_likely_99 : decode m_M_likely.2.1 99 = .ok (.lstore 12, 2) := by decide +kernel
theorem d_M_likely_101 : decode m_M_likely.2.1 101 = .ok (.lload 10, 2) := by decide +kernel
theorem d_M_likely_103 : decode m_M_likely.2.1 103 = .ok (.lstore 8, 2) := by decide +kernel
theorem d_M_likely_105 : decode m_M_likely.2.1 105 = .ok (.lload 12, 2) := by decide +kernel
theorem d_M_likely_107 : decode m_M_likely.2.1 107 = .ok (.lstore 10, 2) := by decide +kernel
theorem d_M_likely_109 : decode m_M_likely.2.1 109 = .ok (.goto (-22), 3) := by decide +kernel
theorem d_M_likely_61 : decode m_M_likely.2.1 61 = .ok (.lload 6, 2) := by decide +kernel
theorem d_M_likely_63 : decode m_M_likely.2.1 63 = .ok (.aload_n 0, 1) := by decide +kernel
theorem d_M_likely_64 : decode m_M_likely.2.1 64 = .ok (.iload_n 1, 1) := by decide +kernel
theorem d_M_likely_65 : decode m_M_likely.2.1 65 = .ok (.iload 8, 2) := by decide +kernel
theorem d_M_likely_67 : decode m_M_likely.2.1 67 = .ok (.invokevirtual 251, 3) := by decide +kernel
theorem d_M_likely_70 : decode m_M_likely.2.1 70 = .ok (.ladd, 1) := by decide +kernel
theorem d_M_likely_71 : decode m_M_likely.2.1 71 = .ok (.lstore 6, 2) := by decide +kernel
theorem d_M_likely_73 : decode m_M_likely.2.1 73 = .ok (.iinc 8 (1), 3) := by decide +kernel
theorem d_M_likely_76 : decode m_M_likely.2.1 76 = .ok (.goto (-22), 3) := by decide +kernel
theorem d_M_liars_0 : decode m_M_liars.2.1 0 = .ok (.aload_n 0, 1) := by decide +kernel
theorem d_M_liars_1 : decode m_M_liars.2.1 1 = .ok (.iload_n 1, 1) := by decide +kernel
theorem d_M_liars_2 : decode m_M_liars.2.1 2 = .ok (.invokevirtual 220, 3) := by decide +kernel
theorem d_M_liars_5 : decode m_M_liars.2.1 5 = .ok (.iconst (-1), 1) := by decide +kernel
theorem d_M_liars_6 : decode m_M_liars.2.1 6 = .ok (.if_icmp .eq (13), 3) := by decide +kernel
theorem d_M_liars_19 : decode m_M_liars.2.1 19 = .ok (.iconst (-1), 1) := by decide +kernel
theorem d_M_liars_20 : decode m_M_liars.2.1 20 = .ok (.ireturn, 1) := by decide +kernel
theorem d_M_liars_9 : decode m_M_liars.2.1 9 = .ok (.iload_n 2, 1) := by decide +kernel
theorem d_M_liars_10 : decode m_M_liars.2.1 10 = .ok (.i2l, 1) := by decide +kernel
theorem d_M_liars_11 : decode m_M_liars.2.1 11 = .ok (.lconst 0, 1) := by decide +kernel
theorem d_M_liars_12 : decode m_M_liars.2.1 12 = .ok (.lconst 1, 1) := by decide +kernel
theorem d_M_liars_13 : decode m_M_liars.2.1 13 = .ok (.invokestatic 84, 3) := by decide +kernel
theorem d_M_liars_16 : decode m_M_liars.2.1 16 = .ok (.ifCond .ne (5), 3) := by decide +kernel
theorem d_M_liars_21 : decode m_M_liars.2.1 21 = .ok (.aload_n 0, 1) := by decide +kernel
theorem d_M_liars_22 : decode m_M_liars.2.1 22 = .ok (.iload_n 1, 1) := by decide +kernel
theorem d_M_liars_23 : decode m_M_liars.2.1 23 = .ok (.invokevirtual 220, 3) := by decide +kernel
theorem d_M_liars_26 : decode m_M_liars.2.1 26 = .ok (.ifCond .ge (9), 3) := by decide +kernel
theorem d_M_liars_35 : decode m_M_liars.2.1 35 = .ok (.ldc 231, 2) := by decide +kernel
theorem d_M_liars_37 : decode m_M_liars.2.1 37 = .ok (.istore_n 3, 1) := by decide +kernel
theorem d_M_liars_38 : decode m_M_liars.2.1 38 = .ok (.iconst 0, 1) := by decide +kernel
theorem d_M_liars_39 : decode m_M_liars.2.1 39 = .ok (.istore 4, 2) := by decide +kernel
theorem d_M_liars_41 : decode m_M_liars.2.1 41 = .ok (.iconst 0, 1) := by decide +kernel
theorem d_M_liars_42 : decode m_M_liars.2.1 42 = .ok (.istore 5, 2) := by decide +kernel
theorem d_M_liars_44 : decode m_M_liars.2.1 44 = .ok (.iload 5, 2) := by decide +kernel
theorem d_M_liars_46 : decode m_M_liars.2.1 46 = .ok (.bipush (6), 2) := by decide +kernel
theorem d_M_liars_48 : decode m_M_liars.2.1 48 = .ok (.if_icmp .ge (92), 3) := by decide +kernel
theorem d_M_liars_140 : decode m_M_liars.2.1 140 = .ok (.iload_n 2, 1) := by decide +kernel
theorem d_M_liars_141 : decode m_M_liars.2.1 141 = .ok (.ifCond .ne (7), 3) := by decide +kernel
theorem d_M_liars_144 : decode m_M_liars.2.1 144 = .ok (.iload_n 3, 1) := by decide +kernel
theorem d_M_liars_145 : decode m_M_liars.2.1 145 = .ok (.goto (5), 3) := by decide +kernel
theorem d_M_liars_150 : decode m_M_liars.2.1 150 = .ok (.ireturn, 1) := by decide +kernel
theorem d_M_liars_148 : decode m_M_liars.2.1 148 = .ok (.iload 4, 2) := by decide +kernel
theorem d_M_liars_51 : decode m_M_liars.2.1 51 = .ok (.iconst 0, 1) := by decide +kernel
theorem d_M_liars_52 : decode m_M_liars.2.1 52 = .ok (.istore 6, 2) := by decide +kernel
theorem d_M_liars_54 : decode m_M_liars.2.1 54 = .ok (.iconst 0, 1) := by decide +kernel
theorem d_M_liars_55 : decode m_M_liars.2.1 55 = .ok (.istore 7, 2) := by decide +kernel
theorem d_M_liars_57 : decode m_M_liars.2.1 57 = .ok (.iload 7, 2) := by decide +kernel
theorem d_M_liars_59 : decode m_M_liars.2.1 59 = .ok (.aload_n 0, 1) := by decide +kernel
theorem d_M_liars_60 : decode m_M_liars.2.1 60 = .ok (.iload_n 1, 1) := by decide +kernel
theorem d_M_liars_61 : decode m_M_liars.2.1 61 = .ok (.invokevirtual 244, 3) := by decide +kernel
theorem d_M_liars_64 : decode m_M_liars.2.1 64 = .ok (.if_icmp .ge (42), 3) := by decide +kernel
theorem d_M_liars_106 : decode m_M_liars.2.1 106 = .ok (.iload 6, 2) := by decide +kernel
theorem d_M_liars_108 : decode m_M_liars.2.1 108 = .ok (.iload_n 3, 1) := by decide +kernel
theorem d_M_liars_109 : decode m_M_liars.2.1 109 = .ok (.if_icmp .ge (8), 3) := by decide +kernel
theorem d_M_liars_117 : decode m_M_liars.2.1 117 = .ok (.iload 4, 2) := by decide +kernel
theorem d_M_liars_119 : decode m_M_liars.2.1 119 = .ok (.istore 4, 2) := by decide +kernel
theorem d_M_liars_121 : decode m_M_liars.2.1 121 = .ok (.iload 6, 2) := by decide +kernel
theorem d_M_liars_123 : decode m_M_liars.2.1 123 = .ok (.iload_n 3, 1) := by decide +kernel
theorem d_M_liars_124 : decode m_M_liars.2.1 124 = .ok (.if_icmp .ge (8), 3) := by decide +kernel
theorem d_M_liars_132 : decode m_M_liars.2.1 132 = .ok (.iload_n 3, 1) := by decide +kernel
theorem d_M_liars_133 : decode m_M_liars.2.1 133 = .ok (.istore_n 3, 1) := by decide +kernel
theorem d_M_liars_134 : decode m_M_liars.2.1 134 = .ok (.iinc 5 (1), 3) := by decide +kernel
theorem d_M_liars_137 : decode m_M_liars.2.1 137 = .ok (.goto (-93), 3) := by decide +kernel
theorem d_M_liars_127 : decode m_M_liars.2.1 127 = .ok (.iload 6, 2) := by decide +kernel
theorem d_M_liars_129 : decode m_M_liars.2.1 129 = .ok (.goto (4), 3) := by decide +kernel
theorem d_M_liars_112 : decode m_M_liars.2.1 112 = .ok (.iload 5, 2) := by decide +kernel
theorem d_M_liars_114 : decode m_M_liars.2.1 114 = .ok (.goto (5), 3) := by decide +kernel
theorem d_M_liars_67 : decode m_M_liars.2.1 67 = .ok (.iload 6, 2) := by decide +kernel
theorem d_M_liars_69 : decode m_M_liars.2.1 69 = .ok (.aload_n 0, 1) := by decide +kernel
theorem d_M_liars_70 : decode m_M_liars.2.1 70 = .ok (.getfield 64, 3) := by decide +kernel
theorem d_M_liars_73 : decode m_M_liars.2.1 73 = .ok (.bipush (60), 2) := by decide +kernel
theorem d_M_liars_75 : decode m_M_liars.2.1 75 = .ok (.iload_n 1, 1) := by decide +kernel
theorem d_M_liars_76 : decode m_M_liars.2.1 76 = .ok (.imul, 1) := by decide +kernel
theorem d_M_liars_77 : decode m_M_liars.2.1 77 = .ok (.iconst 2, 1) := by decide +kernel
theorem d_M_liars_78 : decode m_M_liars.2.1 78 = .ok (.iload 7, 2) := by decide +kernel
theorem d_M_liars_80 : decode m_M_liars.2.1 80 = .ok (.imul, 1) := by decide +kernel
theorem d_M_liars_81 : decode m_M_liars.2.1 81 = .ok (.iadd, 1) := by decide +kernel
theorem d_M_liars_82 : decode m_M_liars.2.1 82 = .ok (.iconst 1, 1) := by decide +kernel
theorem d_M_liars_83 : decode m_M_liars.2.1 83 = .ok (.iadd, 1) := by decide +kernel
theorem d_M_liars_84 : decode m_M_liars.2.1 84 = .ok (.laload, 1) := by decide +kernel
theorem d_M_liars_85 : decode m_M_liars.2.1 85 = .ok (.iload 5, 2) := by decide +kernel
theorem d_M_liars_87 : decode m_M_liars.2.1 87 = .ok (.i2l, 1) := by decide +kernel
theorem d_M_liars_88 : decode m_M_liars.2.1 88 = .ok (.lcmp, 1) := by decide +kernel
theorem d_M_liars_89 : decode m_M_liars.2.1 89 = .ok (.ifCond .eq (7), 3) := by decide +kernel
theorem d_M_liars_96 : decode m_M_liars.2.1 96 = .ok (.iconst 0, 1) := by decide +kernel
theorem d_M_liars_97 : decode m_M_liars.2.1 97 = .ok (.iadd, 1) := by decide +kernel
theorem d_M_liars_98 : decode m_M_liars.2.1 98 = .ok (.istore 6, 2) := by decide +kernel
theorem d_M_liars_100 : decode m_M_liars.2.1 100 = .ok (.iinc 7 (1), 3) := by decide +kernel
theorem d_M_liars_103 : decode m_M_liars.2.1 103 = .ok (.goto (-46), 3) := by decide +kernel
theorem d_M_liars_92 : decode m_M_liars.2.1 92 = .ok (.iconst 1, 1) := by decide +kernel
theorem d_M_liars_93 : decode m_M_liars.2.1 93 = .ok (.goto (4), 3) := by decide +kernel
theorem d_M_liars_29 : decode m_M_liars.2.1 29 = .ok (.aload_n 0, 1) := by decide +kernel
theorem d_M_liars_30 : decode m_M_liars.2.1 30 = .ok (.iload_n 1, 1) := by decide +kernel
theorem d_M_liars_31 : decode m_M_liars.2.1 31 = .ok (.invokevirtual 220, 3) := by decide +kernel
theorem d_M_liars_34 : decode m_M_liars.2.1 34 = .ok (.ireturn, 1) := by decide +kernel
theorem d_M_dayMany_0 : decode m_M_dayMany.2.1 0 = .ok (.iconst 0, 1) := by decide +kernel
theorem d_M_dayMany_1 : decode m_M_dayMany.2.1 1 = .ok (.istore_n 2, 1) := by decide +kernel
theorem d_M_dayMany_2 : decode m_M_dayMany.2.1 2 = .ok (.iload_n 2, 1) := by decide +kernel
theorem d_M_dayMany_3 : decode m_M_dayMany.2.1 3 = .ok (.bipush (40), 2) := by decide +kernel
theorem d_M_dayMany_5 : decode m_M_dayMany.2.1 5 = .ok (.if_icmp .ge (36), 3) := by decide +kernel
theorem d_M_dayMany_41 : decode m_M_dayMany.2.1 41 = .ok (.iload_n 2, 1) := by decide +kernel
theorem d_M_dayMany_42 : decode m_M_dayMany.2.1 42 = .ok (.ireturn, 1) := by decide +kernel
theorem d_M_dayMany_8 : decode m_M_dayMany.2.1 8 = .ok (.iload_n 2, 1) := by decide +kernel
theorem d_M_dayMany_9 : decode m_M_dayMany.2.1 9 = .ok (.aload_n 0, 1) := by decide +kernel
theorem d_M_dayMany_10 : decode m_M_dayMany.2.1 10 = .ok (.getfield 61, 3) := by decide +kernel
theorem d_M_dayMany_13 : decode m_M_dayMany.2.1 13 = .ok (.iload_n 1, 1) := by decide +kernel
theorem d_M_dayMany_14 : decode m_M_dayMany.2.1 14 = .ok (.iaload, 1) := by decide +kernel
theorem d_M_dayMany_15 : decode m_M_dayMany.2.1 15 = .ok (.if_icmp .ge (26), 3) := by decide +kernel
theorem d_M_dayMany_18 : decode m_M_dayMany.2.1 18 = .ok (.aload_n 0, 1) := by decide +kernel
theorem d_M_dayMany_19 : decode m_M_dayMany.2.1 19 = .ok (.getfield 64, 3) := by decide +kernel
theorem d_M_dayMany_22 : decode m_M_dayMany.2.1 22 = .ok (.bipush (60), 2) := by decide +kernel
theorem d_M_dayMany_24 : decode m_M_dayMany.2.1 24 = .ok (.iload_n 1, 1) := by decide +kernel
theorem d_M_dayMany_25 : decode m_M_dayMany.2.1 25 = .ok (.imul, 1) := by decide +kernel
theorem d_M_dayMany_26 : decode m_M_dayMany.2.1 26 = .ok (.iload_n 2, 1) := by decide +kernel
theorem d_M_dayMany_27 : decode m_M_dayMany.2.1 27 = .ok (.iadd, 1) := by decide +kernel
theorem d_M_dayMany_28 : decode m_M_dayMany.2.1 28 = .ok (.laload, 1) := by decide +kernel
theorem d_M_dayMany_29 : decode m_M_dayMany.2.1 29 = .ok (.invokestatic 119, 3) := by decide +kernel
theorem d_M_dayMany_32 : decode m_M_dayMany.2.1 32 = .ok (.ifCond .eq (9), 3) := by decide +kernel
theorem d_M_dayMany_35 : decode m_M_dayMany.2.1 35 = .ok (.iinc 2 (1), 3) := by decide +kernel
theorem d_M_dayMany_38 : decode m_M_dayMany.2.1 38 = .ok (.goto (-36), 3) := by decide +kernel
theorem d_M_dayOf_0 : decode m_M_dayOf.2.1 0 = .ok (.iload_n 0, 1) := by decide +kernel
theorem d_M_dayOf_1 : decode m_M_dayOf.2.1 1 = .ok (.bipush (99), 2) := by decide +kernel
theorem d_M_dayOf_3 : decode m_M_dayOf.2.1 3 = .ok (.if_icmp .le (8), 3) := by decide +kernel
theorem d_M_dayOf_11 : decode m_M_dayOf.2.1 11 = .ok (.iload_n 0, 1) := by decide +kernel
theorem d_M_dayOf_12 : decode m_M_dayOf.2.1 12 = .ok (.ireturn, 1) := by decide +kernel
theorem d_M_dayOf_6 : decode m_M_dayOf.2.1 6 = .ok (.bipush (99), 2) := by decide +kernel
theorem d_M_dayOf_8 : decode m_M_dayOf.2.1 8 = .ok (.goto (4), 3) := by decide +kernel
theorem d_M_happenedOn_0 : decode m_M_happenedOn.2.1 0 = .ok (.aload_n 0, 1) := by decide +kernel
theorem d_M_happenedOn_1 : decode m_M_happenedOn.2.1 1 = .ok (.aload_n 0, 1) := by decide +kernel
theorem d_M_happenedOn_2 : decode m_M_happenedOn.2.1 2 = .ok (.getfield 64, 3) := by decide +kernel
theorem d_M_happenedOn_5 : decode m_M_happenedOn.2.1 5 = .ok (.bipush (60), 2) := by decide +kernel
theorem d_M_happenedOn_7 : decode m_M_happenedOn.2.1 7 = .ok (.iload_n 1, 1) := by decide +kernel
theorem d_M_happenedOn_8 : decode m_M_happenedOn.2.1 8 = .ok (.imul, 1) := by decide +kernel
theorem d_M_happenedOn_9 : decode m_M_happenedOn.2.1 9 = .ok (.iload_n 2, 1) := by decide +kernel
theorem d_M_happenedOn_10 : decode m_M_happenedOn.2.1 10 = .ok (.iadd, 1) := by decide +kernel
theorem d_M_happenedOn_11 : decode m_M_happenedOn.2.1 11 = .ok (.laload, 1) := by decide +kernel
theorem d_M_happenedOn_12 : decode m_M_happenedOn.2.1 12 = .ok (.l2i, 1) := by decide +kernel
theorem d_M_happenedOn_13 : decode m_M_happenedOn.2.1 13 = .ok (.aload_n 0, 1) := by decide +kernel
theorem d_M_happenedOn_14 : decode m_M_happenedOn.2.1 14 = .ok (.getfield 9, 3) := by decide +kernel
theorem d_M_happenedOn_17 : decode m_M_happenedOn.2.1 17 = .ok (.bipush (42), 2) := by decide +kernel
theorem d_M_happenedOn_19 : decode m_M_happenedOn.2.1 19 = .ok (.iaload, 1) := by decide +kernel
theorem d_M_happenedOn_20 : decode m_M_happenedOn.2.1 20 = .ok (.iload_n 2, 1) := by decide +kernel
theorem d_M_happenedOn_21 : decode m_M_happenedOn.2.1 21 = .ok (.iadd, 1) := by decide +kernel
theorem d_M_happenedOn_22 : decode m_M_happenedOn.2.1 22 = .ok (.invokestatic 255, 3) := by decide +kernel
theorem d_M_happenedOn_25 : decode m_M_happenedOn.2.1 25 = .ok (.invokevirtual 195, 3) := by decide +kernel
theorem d_M_happenedOn_28 : decode m_M_happenedOn.2.1 28 = .ok (.aload_n 0, 1) := by decide +kernel
theorem d_M_happenedOn_29 : decode m_M_happenedOn.2.1 29 = .ok (.aload_n 0, 1) := by decide +kernel
theorem d_M_happenedOn_30 : decode m_M_happenedOn.2.1 30 = .ok (.invokevirtual 211, 3) := by decide +kernel
theorem d_M_happenedOn_33 : decode m_M_happenedOn.2.1 33 = .ok (.invokevirtual 214, 3) := by decide +kernel
theorem d_M_happenedOn_36 : decode m_M_happenedOn.2.1 36 = .ok (.ireturn, 1) := by decide +kernel
theorem d_M_days_0 : decode m_M_days.2.1 0 = .ok (.aload_n 0, 1) := by decide +kernel
theorem d_M_days_1 : decode m_M_days.2.1 1 = .ok (.iload_n 1, 1) := by decide +kernel
theorem d_M_days_2 : decode m_M_days.2.1 2 = .ok (.invokevirtual 220, 3) := by decide +kernel
theorem d_M_days_5 : decode m_M_days.2.1 5 = .ok (.iconst (-1), 1) := by decide +kernel
theorem d_M_days_6 : decode m_M_days.2.1 6 = .ok (.if_icmp .eq (15), 3) := by decide +kernel
theorem d_M_days_21 : decode m_M_days.2.1 21 = .ok (.iconst (-1), 1) := by decide +kernel
theorem d_M_days_22 : decode m_M_days.2.1 22 = .ok (.ireturn, 1) := by decide +kernel
theorem d_M_days_9 : decode m_M_days.2.1 9 = .ok (.iload_n 2, 1) := by decide +kernel
theorem d_M_days_10 : decode m_M_days.2.1 10 = .ok (.i2l, 1) := by decide +kernel
theorem d_M_days_11 : decode m_M_days.2.1 11 = .ok (.lconst 0, 1) := by decide +kernel
theorem d_M_days_12 : decode m_M_days.2.1 12 = .ok (.ldc2_w 122, 3) := by decide +kernel
theorem d_M_days_15 : decode m_M_days.2.1 15 = .ok (.invokestatic 84, 3) := by decide +kernel
theorem d_M_days_18 : decode m_M_days.2.1 18 = .ok (.ifCond .ne (5), 3) := by decide +kernel
theorem d_M_days_23 : decode m_M_days.2.1 23 = .ok (.aload_n 0, 1) := by decide +kernel
theorem d_M_days_24 : decode m_M_days.2.1 24 = .ok (.iload_n 1, 1) := by decide +kernel
theorem d_M_days_25 : decode m_M_days.2.1 25 = .ok (.invokevirtual 220, 3) := by decide +kernel
theorem d_M_days_28 : decode m_M_days.2.1 28 = .ok (.ifCond .ge (9), 3) := by decide +kernel
theorem d_M_days_37 : decode m_M_days.2.1 37 = .ok (.iconst 0, 1) := by decide +kernel
theorem d_M_days_38 : decode m_M_days.2.1 38 = .ok (.istore_n 3, 1) := by decide +kernel
theorem d_M_days_39 : decode m_M_days.2.1 39 = .ok (.iconst 0, 1) := by decide +kernel
theorem d_M_days_40 : decode m_M_days.2.1 40 = .ok (.istore 4, 2) := by decide +kernel
theorem d_M_days_42 : decode m_M_days.2.1 42 = .ok (.iconst 0, 1) := by decide +kernel
theorem d_M_days_43 : decode m_M_days.2.1 43 = .ok (.istore 5, 2) := by decide +kernel
theorem d_M_days_45 : decode m_M_days.2.1 45 = .ok (.iconst 0, 1) := by decide +kernel
theorem d_M_days_46 : decode m_M_days.2.1 46 = .ok (.istore 6, 2) := by decide +kernel
theorem d_M_days_48 : decode m_M_days.2.1 48 = .ok (.iconst 0, 1) := by decide +kernel
theorem d_M_days_49 : decode m_M_days.2.1 49 = .ok (.istore 7, 2) := by decide +kernel
theorem d_M_days_51 : decode m_M_days.2.1 51 = .ok (.iload 7, 2) := by decide +kernel
theorem d_M_days_53 : decode m_M_days.2.1 53 = .ok (.aload_n 0, 1) := by decide +kernel
theorem d_M_days_54 : decode m_M_days.2.1 54 = .ok (.iload_n 1, 1) := by decide +kernel
theorem d_M_days_55 : decode m_M_days.2.1 55 = .ok (.invokevirtual 258, 3) := by decide +kernel
theorem d_M_days_58 : decode m_M_days.2.1 58 = .ok (.if_icmp .ge (92), 3) := by decide +kernel
theorem d_M_days_150 : decode m_M_days.2.1 150 = .ok (.iload_n 2, 1) := by decide +kernel
theorem d_M_days_151 : decode m_M_days.2.1 151 = .ok (.ifCond .ne (7), 3) := by decide +kernel
theorem d_M_days_154 : decode m_M_days.2.1 154 = .ok (.iload_n 3, 1) := by decide +kernel
theorem d_M_days_155 : decode m_M_days.2.1 155 = .ok (.goto (15), 3) := by decide +kernel
theorem d_M_days_170 : decode m_M_days.2.1 170 = .ok (.ireturn, 1) := by decide +kernel
theorem d_M_days_158 : decode m_M_days.2.1 158 = .ok (.iload_n 2, 1) := by decide +kernel
theorem d_M_days_159 : decode m_M_days.2.1 159 = .ok (.iconst 1, 1) := by decide +kernel
theorem d_M_days_160 : decode m_M_days.2.1 160 = .ok (.if_icmp .ne (8), 3) := by decide +kernel
theorem d_M_days_163 : decode m_M_days.2.1 163 = .ok (.iload 4, 2) := by decide +kernel
theorem d_M_days_165 : decode m_M_days.2.1 165 = .ok (.goto (5), 3) := by decide +kernel
theorem d_M_days_168 : decode m_M_days.2.1 168 = .ok (.iload 6, 2) := by decide +kernel
theorem d_M_days_61 : decode m_M_days.2.1 61 = .ok (.aload_n 0, 1) := by decide +kernel
theorem d_M_days_62 : decode m_M_days.2.1 62 = .ok (.iload_n 1, 1) := by decide +kernel
theorem d_M_days_63 : decode m_M_days.2.1 63 = .ok (.iload 7, 2) := by decide +kernel
theorem d_M_days_65 : decode m_M_days.2.1 65 = .ok (.invokevirtual 261, 3) := by decide +kernel
theorem d_M_days_68 : decode m_M_days.2.1 68 = .ok (.istore 8, 2) := by decide +kernel
theorem d_M_days_70 : decode m_M_days.2.1 70 = .ok (.iload_n 3, 1) := by decide +kernel
theorem d_M_days_71 : decode m_M_days.2.1 71 = .ok (.iload 8, 2) := by decide +kernel
theorem d_M_days_73 : decode m_M_days.2.1 73 = .ok (.ifCond .eq (7), 3) := by decide +kernel
theorem d_M_days_80 : decode m_M_days.2.1 80 = .ok (.iconst 0, 1) := by decide +kernel
theorem d_M_days_81 : decode m_M_days.2.1 81 = .ok (.iadd, 1) := by decide +kernel
theorem d_M_days_82 : decode m_M_days.2.1 82 = .ok (.istore_n 3, 1) := by decide +kernel
theorem d_M_days_83 : decode m_M_days.2.1 83 = .ok (.iload 4, 2) := by decide +kernel
theorem d_M_days_85 : decode m_M_days.2.1 85 = .ok (.iload 8, 2) := by decide +kernel
theorem d_M_days_87 : decode m_M_days.2.1 87 = .ok (.iconst 1, 1) := by decide +kernel
theorem d_M_days_88 : decode m_M_days.2.1 88 = .ok (.aload_n 0, 1) := by decide +kernel
theorem d_M_days_89 : decode m_M_days.2.1 89 = .ok (.getfield 64, 3) := by decide +kernel
theorem d_M_days_92 : decode m_M_days.2.1 92 = .ok (.bipush (60), 2) := by decide +kernel
theorem d_M_days_94 : decode m_M_days.2.1 94 = .ok (.iload_n 1, 1) := by decide +kernel
theorem d_M_days_95 : decode m_M_days.2.1 95 = .ok (.imul, 1) := by decide +kernel
theorem d_M_days_96 : decode m_M_days.2.1 96 = .ok (.iload 7, 2) := by decide +kernel
theorem d_M_days_98 : decode m_M_days.2.1 98 = .ok (.iadd, 1) := by decide +kernel
theorem d_M_days_99 : decode m_M_days.2.1 99 = .ok (.laload, 1) := by decide +kernel
theorem d_M_days_100 : decode m_M_days.2.1 100 = .ok (.l2i, 1) := by decide +kernel
theorem d_M_days_101 : decode m_M_days.2.1 101 = .ok (.ishl, 1) := by decide +kernel
theorem d_M_days_102 : decode m_M_days.2.1 102 = .ok (.if_icmp .ne (7), 3) := by decide +kernel
theorem d_M_days_105 : decode m_M_days.2.1 105 = .ok (.iconst 1, 1) := by decide +kernel
theorem d_M_days_106 : decode m_M_days.2.1 106 = .ok (.goto (4), 3) := by decide +kernel
theorem d_M_days_110 : decode m_M_days.2.1 110 = .ok (.iadd, 1) := by decide +kernel
theorem d_M_days_111 : decode m_M_days.2.1 111 = .ok (.istore 4, 2) := by decide +kernel
theorem d_M_days_113 : decode m_M_days.2.1 113 = .ok (.iload 8, 2) := by decide +kernel
theorem d_M_days_115 : decode m_M_days.2.1 115 = .ok (.ifCond .ne (10), 3) := by decide +kernel
theorem d_M_days_118 : decode m_M_days.2.1 118 = .ok (.iload 5, 2) := by decide +kernel
theorem d_M_days_120 : decode m_M_days.2.1 120 = .ok (.iconst 1, 1) := by decide +kernel
theorem d_M_days_121 : decode m_M_days.2.1 121 = .ok (.iadd, 1) := by decide +kernel
theorem d_M_days_122 : decode m_M_days.2.1 122 = .ok (.goto (4), 3) := by decide +kernel
theorem d_M_days_126 : decode m_M_days.2.1 126 = .ok (.istore 5, 2) := by decide +kernel
theorem d_M_days_128 : decode m_M_days.2.1 128 = .ok (.iload 5, 2) := by decide +kernel
theorem d_M_days_130 : decode m_M_days.2.1 130 = .ok (.iload 6, 2) := by decide +kernel
theorem d_M_days_132 : decode m_M_days.2.1 132 = .ok (.if_icmp .le (8), 3) := by decide +kernel
theorem d_M_days_140 : decode m_M_days.2.1 140 = .ok (.iload 6, 2) := by decide +kernel
theorem d_M_days_142 : decode m_M_days.2.1 142 = .ok (.istore 6, 2) := by decide +kernel
theorem d_M_days_144 : decode m_M_days.2.1 144 = .ok (.iinc 7 (1), 3) := by decide +kernel
theorem d_M_days_147 : decode m_M_days.2.1 147 = .ok (.goto (-96), 3) := by decide +kernel
theorem d_M_days_135 : decode m_M_days.2.1 135 = .ok (.iload 5, 2) := by decide +kernel
theorem d_M_days_137 : decode m_M_days.2.1 137 = .ok (.goto (5), 3) := by decide +kernel
theorem d_M_days_125 : decode m_M_days.2.1 125 = .ok (.iconst 0, 1) := by decide +kernel
theorem d_M_days_109 : decode m_M_days.2.1 109 = .ok (.iconst 0, 1) := by decide +kernel
theorem d_M_days_76 : decode m_M_days.2.1 76 = .ok (.iconst 1, 1) := by decide +kernel
theorem d_M_days_77 : decode m_M_days.2.1 77 = .ok (.goto (4), 3) := by decide +kernel
theorem d_M_days_31 : decode m_M_days.2.1 31 = .ok (.aload_n 0, 1) := by decide +kernel
theorem d_M_days_32 : decode m_M_days.2.1 32 = .ok (.iload_n 1, 1) := by decide +kernel
theorem d_M_days_33 : decode m_M_days.2.1 33 = .ok (.invokevirtual 220, 3) := by decide +kernel
theorem d_M_days_36 : decode m_M_days.2.1 36 = .ok (.ireturn, 1) := by decide +kernel
theorem d_M_rowsAre_0 : decode m_M_rowsAre.2.1 0 = .ok (.iload_n 1, 1) := by decide +kernel
theorem d_M_rowsAre_1 : decode m_M_rowsAre.2.1 1 = .ok (.ifCond .lt (23), 3) := by decide +kernel
theorem d_M_rowsAre_24 : decode m_M_rowsAre.2.1 24 = .ok (.iconst (-1), 1) := by decide +kernel
theorem d_M_rowsAre_25 : decode m_M_rowsAre.2.1 25 = .ok (.ireturn, 1) := by decide +kernel
theorem d_M_rowsAre_4 : decode m_M_rowsAre.2.1 4 = .ok (.iload_n 1, 1) := by decide +kernel
theorem d_M_rowsAre_5 : decode m_M_rowsAre.2.1 5 = .ok (.bipush (10), 2) := by decide +kernel
theorem d_M_rowsAre_7 : decode m_M_rowsAre.2.1 7 = .ok (.idiv, 1) := by decide +kernel
theorem d_M_rowsAre_8 : decode m_M_rowsAre.2.1 8 = .ok (.invokestatic 103, 3) := by decide +kernel
theorem d_M_rowsAre_11 : decode m_M_rowsAre.2.1 11 = .ok (.ifCond .eq (13), 3) := by decide +kernel
theorem d_M_rowsAre_14 : decode m_M_rowsAre.2.1 14 = .ok (.iload_n 1, 1) := by decide +kernel
theorem d_M_rowsAre_15 : decode m_M_rowsAre.2.1 15 = .ok (.bipush (10), 2) := by decide +kernel
theorem d_M_rowsAre_17 : decode m_M_rowsAre.2.1 17 = .ok (.irem, 1) := by decide +kernel
theorem d_M_rowsAre_18 : decode m_M_rowsAre.2.1 18 = .ok (.invokestatic 103, 3) := by decide +kernel
theorem d_M_rowsAre_21 : decode m_M_rowsAre.2.1 21 = .ok (.ifCond .ne (5), 3) := by decide +kernel
theorem d_M_rowsAre_26 : decode m_M_rowsAre.2.1 26 = .ok (.aload_n 0, 1) := by decide +kernel
theorem d_M_rowsAre_27 : decode m_M_rowsAre.2.1 27 = .ok (.iload_n 1, 1) := by decide +kernel
theorem d_M_rowsAre_28 : decode m_M_rowsAre.2.1 28 = .ok (.bipush (10), 2) := by decide +kernel
theorem d_M_rowsAre_30 : decode m_M_rowsAre.2.1 30 = .ok (.idiv, 1) := by decide +kernel
theorem d_M_rowsAre_31 : decode m_M_rowsAre.2.1 31 = .ok (.invokevirtual 220, 3) := by decide +kernel
theorem d_M_rowsAre_34 : decode m_M_rowsAre.2.1 34 = .ok (.ifCond .ge (14), 3) := by decide +kernel
theorem d_M_rowsAre_48 : decode m_M_rowsAre.2.1 48 = .ok (.aload_n 0, 1) := by decide +kernel
theorem d_M_rowsAre_49 : decode m_M_rowsAre.2.1 49 = .ok (.iload_n 1, 1) := by decide +kernel
theorem d_M_rowsAre_50 : decode m_M_rowsAre.2.1 50 = .ok (.bipush (10), 2) := by decide +kernel
theorem d_M_rowsAre_52 : decode m_M_rowsAre.2.1 52 = .ok (.irem, 1) := by decide +kernel
theorem d_M_rowsAre_53 : decode m_M_rowsAre.2.1 53 = .ok (.invokevirtual 220, 3) := by decide +kernel
theorem d_M_rowsAre_56 : decode m_M_rowsAre.2.1 56 = .ok (.ireturn, 1) := by decide +kernel
theorem d_M_rowsAre_37 : decode m_M_rowsAre.2.1 37 = .ok (.aload_n 0, 1) := by decide +kernel
theorem d_M_rowsAre_38 : decode m_M_rowsAre.2.1 38 = .ok (.iload_n 1, 1) := by decide +kernel
theorem d_M_rowsAre_39 : decode m_M_rowsAre.2.1 39 = .ok (.bipush (10), 2) := by decide +kernel
theorem d_M_rowsAre_41 : decode m_M_rowsAre.2.1 41 = .ok (.idiv, 1) := by decide +kernel
theorem d_M_rowsAre_42 : decode m_M_rowsAre.2.1 42 = .ok (.invokevirtual 220, 3) := by decide +kernel
theorem d_M_rowsAre_45 : decode m_M_rowsAre.2.1 45 = .ok (.goto (11), 3) := by decide +kernel
theorem d_M_firstFalse_0 : decode m_M_firstFalse.2.1 0 = .ok (.iconst 0, 1) := by decide +kernel
theorem d_M_firstFalse_1 : decode m_M_firstFalse.2.1 1 = .ok (.istore_n 2, 1) := by decide +kernel
theorem d_M_firstFalse_2 : decode m_M_firstFalse.2.1 2 = .ok (.iload_n 2, 1) := by decide +kernel
theorem d_M_firstFalse_3 : decode m_M_firstFalse.2.1 3 = .ok (.aload_n 0, 1) := by decide +kernel
theorem d_M_firstFalse_4 : decode m_M_firstFalse.2.1 4 = .ok (.getfield 61, 3) := by decide +kernel
theorem d_M_firstFalse_7 : decode m_M_firstFalse.2.1 7 = .ok (.iload_n 1, 1) := by decide +kernel
theorem d_M_firstFalse_8 : decode m_M_firstFalse.2.1 8 = .ok (.bipush (10), 2) := by decide +kernel
theorem d_M_firstFalse_10 : decode m_M_firstFalse.2.1 10 = .ok (.irem, 1) := by decide +kernel
theorem d_M_firstFalse_11 : decode m_M_firstFalse.2.1 11 = .ok (.iaload, 1) := by decide +kernel
theorem d_M_firstFalse_12 : decode m_M_firstFalse.2.1 12 = .ok (.if_icmp .ge (51), 3) := by decide +kernel
theorem d_M_firstFalse_63 : decode m_M_firstFalse.2.1 63 = .ok (.bipush (-2), 2) := by decide +kernel
theorem d_M_firstFalse_65 : decode m_M_firstFalse.2.1 65 = .ok (.ireturn, 1) := by decide +kernel
theorem d_M_firstFalse_15 : decode m_M_firstFalse.2.1 15 = .ok (.iload_n 2, 1) := by decide +kernel
theorem d_M_firstFalse_16 : decode m_M_firstFalse.2.1 16 = .ok (.aload_n 0, 1) := by decide +kernel
theorem d_M_firstFalse_17 : decode m_M_firstFalse.2.1 17 = .ok (.iload_n 1, 1) := by decide +kernel
theorem d_M_firstFalse_18 : decode m_M_firstFalse.2.1 18 = .ok (.bipush (10), 2) := by decide +kernel
theorem d_M_firstFalse_20 : decode m_M_firstFalse.2.1 20 = .ok (.idiv, 1) := by decide +kernel
theorem d_M_firstFalse_21 : decode m_M_firstFalse.2.1 21 = .ok (.invokevirtual 258, 3) := by decide +kernel
theorem d_M_firstFalse_24 : decode m_M_firstFalse.2.1 24 = .ok (.if_icmp .ge (31), 3) := by decide +kernel
theorem d_M_firstFalse_55 : decode m_M_firstFalse.2.1 55 = .ok (.iload_n 2, 1) := by decide +kernel
theorem d_M_firstFalse_56 : decode m_M_firstFalse.2.1 56 = .ok (.ireturn, 1) := by decide +kernel
theorem d_M_firstFalse_27 : decode m_M_firstFalse.2.1 27 = .ok (.aload_n 0, 1) := by decide +kernel
theorem d_M_firstFalse_28 : decode m_M_firstFalse.2.1 28 = .ok (.getfield 64, 3) := by decide +kernel
theorem d_M_firstFalse_31 : decode m_M_firstFalse.2.1 31 = .ok (.bipush (60), 2) := by decide +kernel
theorem d_M_firstFalse_33 : decode m_M_firstFalse.2.1 33 = .ok (.iload_n 1, 1) := by decide +kernel
theorem d_M_firstFalse_34 : decode m_M_firstFalse.2.1 34 = .ok (.bipush (10), 2) := by decide +kernel
theorem d_M_firstFalse_36 : decode m_M_firstFalse.2.1 36 = .ok (.irem, 1) := by decide +kernel
theorem d_M_firstFalse_37 : decode m_M_firstFalse.2.1 37 = .ok (.imul, 1) := by decide +kernel
theorem d_M_firstFalse_38 : decode m_M_firstFalse.2.1 38 = .ok (.iload_n 2, 1) := by decide +kernel
theorem d_M_firstFalse_39 : decode m_M_firstFalse.2.1 39 = .ok (.iadd, 1) := by decide +kernel
theorem d_M_firstFalse_40 : decode m_M_firstFalse.2.1 40 = .ok (.laload, 1) := by decide +kernel
theorem d_M_firstFalse_41 : decode m_M_firstFalse.2.1 41 = .ok (.aload_n 0, 1) := by decide +kernel
theorem d_M_firstFalse_42 : decode m_M_firstFalse.2.1 42 = .ok (.iload_n 1, 1) := by decide +kernel
theorem d_M_firstFalse_43 : decode m_M_firstFalse.2.1 43 = .ok (.bipush (10), 2) := by decide +kernel
theorem d_M_firstFalse_45 : decode m_M_firstFalse.2.1 45 = .ok (.idiv, 1) := by decide +kernel
theorem d_M_firstFalse_46 : decode m_M_firstFalse.2.1 46 = .ok (.iload_n 2, 1) := by decide +kernel
theorem d_M_firstFalse_47 : decode m_M_firstFalse.2.1 47 = .ok (.invokevirtual 261, 3) := by decide +kernel
theorem d_M_firstFalse_50 : decode m_M_firstFalse.2.1 50 = .ok (.i2l, 1) := by decide +kernel
theorem d_M_firstFalse_51 : decode m_M_firstFalse.2.1 51 = .ok (.lcmp, 1) := by decide +kernel
theorem d_M_firstFalse_52 : decode m_M_firstFalse.2.1 52 = .ok (.ifCond .eq (5), 3) := by decide +kernel
theorem d_M_firstFalse_57 : decode m_M_firstFalse.2.1 57 = .ok (.iinc 2 (1), 3) := by decide +kernel
theorem d_M_firstFalse_60 : decode m_M_firstFalse.2.1 60 = .ok (.goto (-58), 3) := by decide +kernel
theorem d_M_judge_0 : decode m_M_judge.2.1 0 = .ok (.aload_n 0, 1) := by decide +kernel
theorem d_M_judge_1 : decode m_M_judge.2.1 1 = .ok (.iload_n 1, 1) := by decide +kernel
theorem d_M_judge_2 : decode m_M_judge.2.1 2 = .ok (.invokevirtual 264, 3) := by decide +kernel
theorem d_M_judge_5 : decode m_M_judge.2.1 5 = .ok (.ifCond .ge (11), 3) := by decide +kernel
theorem d_M_judge_16 : decode m_M_judge.2.1 16 = .ok (.aload_n 0, 1) := by decide +kernel
theorem d_M_judge_17 : decode m_M_judge.2.1 17 = .ok (.iload_n 1, 1) := by decide +kernel
theorem d_M_judge_18 : decode m_M_judge.2.1 18 = .ok (.invokevirtual 267, 3) := by decide +kernel
theorem d_M_judge_21 : decode m_M_judge.2.1 21 = .ok (.ireturn, 1) := by decide +kernel
theorem d_M_judge_8 : decode m_M_judge.2.1 8 = .ok (.aload_n 0, 1) := by decide +kernel
theorem d_M_judge_9 : decode m_M_judge.2.1 9 = .ok (.iload_n 1, 1) := by decide +kernel
theorem d_M_judge_10 : decode m_M_judge.2.1 10 = .ok (.invokevirtual 264, 3) := by decide +kernel
theorem d_M_judge_13 : decode m_M_judge.2.1 13 = .ok (.goto (8), 3) := by decide +kernel
theorem d_M_fits_0 : decode m_M_fits.2.1 0 = .ok (.aload_n 0, 1) := by decide +kernel
theorem d_M_fits_1 : decode m_M_fits.2.1 1 = .ok (.iload_n 1, 1) := by decide +kernel
theorem d_M_fits_2 : decode m_M_fits.2.1 2 = .ok (.invokevirtual 264, 3) := by decide +kernel
theorem d_M_fits_5 : decode m_M_fits.2.1 5 = .ok (.iconst (-1), 1) := by decide +kernel
theorem d_M_fits_6 : decode m_M_fits.2.1 6 = .ok (.if_icmp .eq (24), 3) := by decide +kernel
theorem d_M_fits_30 : decode m_M_fits.2.1 30 = .ok (.iconst (-1), 1) := by decide +kernel
theorem d_M_fits_31 : decode m_M_fits.2.1 31 = .ok (.ireturn, 1) := by decide +kernel
theorem d_M_fits_9 : decode m_M_fits.2.1 9 = .ok (.aload_n 0, 1) := by decide +kernel
theorem d_M_fits_10 : decode m_M_fits.2.1 10 = .ok (.iload_n 2, 1) := by decide +kernel
theorem d_M_fits_11 : decode m_M_fits.2.1 11 = .ok (.i2l, 1) := by decide +kernel
theorem d_M_fits_12 : decode m_M_fits.2.1 12 = .ok (.invokevirtual 111, 3) := by decide +kernel
theorem d_M_fits_15 : decode m_M_fits.2.1 15 = .ok (.ifCond .eq (15), 3) := by decide +kernel
theorem d_M_fits_18 : decode m_M_fits.2.1 18 = .ok (.iload_n 3, 1) := by decide +kernel
theorem d_M_fits_19 : decode m_M_fits.2.1 19 = .ok (.i2l, 1) := by decide +kernel
theorem d_M_fits_20 : decode m_M_fits.2.1 20 = .ok (.lconst 0, 1) := by decide +kernel
theorem d_M_fits_21 : decode m_M_fits.2.1 21 = .ok (.ldc2_w 122, 3) := by decide +kernel
theorem d_M_fits_24 : decode m_M_fits.2.1 24 = .ok (.invokestatic 84, 3) := by decide +kernel
theorem d_M_fits_27 : decode m_M_fits.2.1 27 = .ok (.ifCond .ne (5), 3) := by decide +kernel
theorem d_M_fits_32 : decode m_M_fits.2.1 32 = .ok (.aload_n 0, 1) := by decide +kernel
theorem d_M_fits_33 : decode m_M_fits.2.1 33 = .ok (.iload_n 1, 1) := by decide +kernel
theorem d_M_fits_34 : decode m_M_fits.2.1 34 = .ok (.invokevirtual 264, 3) := by decide +kernel
theorem d_M_fits_37 : decode m_M_fits.2.1 37 = .ok (.ifCond .ge (9), 3) := by decide +kernel
theorem d_M_fits_46 : decode m_M_fits.2.1 46 = .ok (.iload_n 3, 1) := by decide +kernel
theorem d_M_fits_47 : decode m_M_fits.2.1 47 = .ok (.iconst 2, 1) := by decide +kernel
theorem d_M_fits_48 : decode m_M_fits.2.1 48 = .ok (.if_icmp .ne (7), 3) := by decide +kernel
theorem d_M_fits_51 : decode m_M_fits.2.1 51 = .ok (.iload_n 2, 1) := by decide +kernel
theorem d_M_fits_52 : decode m_M_fits.2.1 52 = .ok (.goto (7), 3) := by decide +kernel
theorem d_M_fits_59 : decode m_M_fits.2.1 59 = .ok (.istore 4, 2) := by decide +kernel
theorem d_M_fits_61 : decode m_M_fits.2.1 61 = .ok (.aload_n 0, 1) := by decide +kernel
theorem d_M_fits_62 : decode m_M_fits.2.1 62 = .ok (.getfield 9, 3) := by decide +kernel
theorem d_M_fits_65 : decode m_M_fits.2.1 65 = .ok (.iload 4, 2) := by decide +kernel
theorem d_M_fits_67 : decode m_M_fits.2.1 67 = .ok (.iaload, 1) := by decide +kernel
theorem d_M_fits_68 : decode m_M_fits.2.1 68 = .ok (.istore 5, 2) := by decide +kernel
theorem d_M_fits_70 : decode m_M_fits.2.1 70 = .ok (.iconst 0, 1) := by decide +kernel
theorem d_M_fits_71 : decode m_M_fits.2.1 71 = .ok (.istore 6, 2) := by decide +kernel
theorem d_M_fits_73 : decode m_M_fits.2.1 73 = .ok (.bipush (-2), 2) := by decide +kernel
theorem d_M_fits_75 : decode m_M_fits.2.1 75 = .ok (.istore 7, 2) := by decide +kernel
theorem d_M_fits_77 : decode m_M_fits.2.1 77 = .ok (.iconst 0, 1) := by decide +kernel
theorem d_M_fits_78 : decode m_M_fits.2.1 78 = .ok (.istore 8, 2) := by decide +kernel
theorem d_M_fits_80 : decode m_M_fits.2.1 80 = .ok (.iconst 0, 1) := by decide +kernel
theorem d_M_fits_81 : decode m_M_fits.2.1 81 = .ok (.istore 9, 2) := by decide +kernel
theorem d_M_fits_83 : decode m_M_fits.2.1 83 = .ok (.iload 9, 2) := by decide +kernel
theorem d_M_fits_85 : decode m_M_fits.2.1 85 = .ok (.iload_n 3, 1) := by decide +kernel
theorem d_M_fits_86 : decode m_M_fits.2.1 86 = .ok (.iconst 2, 1) := by decide +kernel
theorem d_M_fits_87 : decode m_M_fits.2.1 87 = .ok (.if_icmp .ne (8), 3) := by decide +kernel
theorem d_M_fits_90 : decode m_M_fits.2.1 90 = .ok (.bipush (7), 2) := by decide +kernel
theorem d_M_fits_92 : decode m_M_fits.2.1 92 = .ok (.goto (5), 3) := by decide +kernel
theorem d_M_fits_97 : decode m_M_fits.2.1 97 = .ok (.if_icmp .gt (54), 3) := by decide +kernel
theorem d_M_fits_151 : decode m_M_fits.2.1 151 = .ok (.aload_n 0, 1) := by decide +kernel
theorem d_M_fits_152 : decode m_M_fits.2.1 152 = .ok (.getfield 9, 3) := by decide +kernel
theorem d_M_fits_155 : decode m_M_fits.2.1 155 = .ok (.iload 4, 2) := by decide +kernel
theorem d_M_fits_157 : decode m_M_fits.2.1 157 = .ok (.iload 5, 2) := by decide +kernel
theorem d_M_fits_159 : decode m_M_fits.2.1 159 = .ok (.iastore, 1) := by decide +kernel
theorem d_M_fits_160 : decode m_M_fits.2.1 160 = .ok (.iload_n 3, 1) := by decide +kernel
theorem d_M_fits_161 : decode m_M_fits.2.1 161 = .ok (.ifCond .ne (8), 3) := by decide +kernel
theorem d_M_fits_164 : decode m_M_fits.2.1 164 = .ok (.iload 6, 2) := by decide +kernel
theorem d_M_fits_166 : decode m_M_fits.2.1 166 = .ok (.goto (15), 3) := by decide +kernel
theorem d_M_fits_181 : decode m_M_fits.2.1 181 = .ok (.ireturn, 1) := by decide +kernel
theorem d_M_fits_169 : decode m_M_fits.2.1 169 = .ok (.iload_n 3, 1) := by decide +kernel
theorem d_M_fits_170 : decode m_M_fits.2.1 170 = .ok (.iconst 1, 1) := by decide +kernel
theorem d_M_fits_171 : decode m_M_fits.2.1 171 = .ok (.if_icmp .ne (8), 3) := by decide +kernel
theorem d_M_fits_174 : decode m_M_fits.2.1 174 = .ok (.iload 7, 2) := by decide +kernel
theorem d_M_fits_176 : decode m_M_fits.2.1 176 = .ok (.goto (5), 3) := by decide +kernel
theorem d_M_fits_179 : decode m_M_fits.2.1 179 = .ok (.iload 8, 2) := by decide +kernel
theorem d_M_fits_100 : decode m_M_fits.2.1 100 = .ok (.aload_n 0, 1) := by decide +kernel
theorem d_M_fits_101 : decode m_M_fits.2.1 101 = .ok (.getfield 9, 3) := by decide +kernel
theorem d_M_fits_104 : decode m_M_fits.2.1 104 = .ok (.iload 4, 2) := by decide +kernel
theorem d_M_fits_106 : decode m_M_fits.2.1 106 = .ok (.iload 9, 2) := by decide +kernel
theorem d_M_fits_108 : decode m_M_fits.2.1 108 = .ok (.iastore, 1) := by decide +kernel
theorem d_M_fits_109 : decode m_M_fits.2.1 109 = .ok (.aload_n 0, 1) := by decide +kernel
theorem d_M_fits_110 : decode m_M_fits.2.1 110 = .ok (.iload_n 1, 1) := by decide +kernel
theorem d_M_fits_111 : decode m_M_fits.2.1 111 = .ok (.invokevirtual 267, 3) := by decide +kernel
theorem d_M_fits_114 : decode m_M_fits.2.1 114 = .ok (.bipush (-2), 2) := by decide +kernel
theorem d_M_fits_116 : decode m_M_fits.2.1 116 = .ok (.if_icmp .ne (29), 3) := by decide +kernel
theorem d_M_fits_119 : decode m_M_fits.2.1 119 = .ok (.iload 6, 2) := by decide +kernel
theorem d_M_fits_121 : decode m_M_fits.2.1 121 = .ok (.ifCond .ne (8), 3) := by decide +kernel
theorem d_M_fits_124 : decode m_M_fits.2.1 124 = .ok (.iload 9, 2) := by decide +kernel
theorem d_M_fits_126 : decode m_M_fits.2.1 126 = .ok (.goto (5), 3) := by decide +kernel
theorem d_M_fits_131 : decode m_M_fits.2.1 131 = .ok (.istore 7, 2) := by decide +kernel
theorem d_M_fits_133 : decode m_M_fits.2.1 133 = .ok (.iload 8, 2) := by decide +kernel
theorem d_M_fits_135 : decode m_M_fits.2.1 135 = .ok (.iconst 1, 1) := by decide +kernel
theorem d_M_fits_136 : decode m_M_fits.2.1 136 = .ok (.iload 9, 2) := by decide +kernel
theorem d_M_fits_138 : decode m_M_fits.2.1 138 = .ok (.ishl, 1) := by decide +kernel
theorem d_M_fits_139 : decode m_M_fits.2.1 139 = .ok (.ior, 1) := by decide +kernel
theorem d_M_fits_140 : decode m_M_fits.2.1 140 = .ok (.istore 8, 2) := by decide +kernel
theorem d_M_fits_142 : decode m_M_fits.2.1 142 = .ok (.iinc 6 (1), 3) := by decide +kernel
theorem d_M_fits_145 : decode m_M_fits.2.1 145 = .ok (.iinc 9 (1), 3) := by decide +kernel
theorem d_M_fits_148 : decode m_M_fits.2.1 148 = .ok (.goto (-65), 3) := by decide +kernel
theorem d_M_fits_129 : decode m_M_fits.2.1 129 = .ok (.iload 7, 2) := by decide +kernel
theorem d_M_fits_95 : decode m_M_fits.2.1 95 = .ok (.bipush (12), 2) := by decide +kernel
theorem d_M_fits_55 : decode m_M_fits.2.1 55 = .ok (.bipush (10), 2) := by decide +kernel
theorem d_M_fits_57 : decode m_M_fits.2.1 57 = .ok (.iload_n 2, 1) := by decide +kernel
theorem d_M_fits_58 : decode m_M_fits.2.1 58 = .ok (.iadd, 1) := by decide +kernel
theorem d_M_fits_40 : decode m_M_fits.2.1 40 = .ok (.aload_n 0, 1) := by decide +kernel
theorem d_M_fits_41 : decode m_M_fits.2.1 41 = .ok (.iload_n 1, 1) := by decide +kernel
theorem d_M_fits_42 : decode m_M_fits.2.1 42 = .ok (.invokevirtual 264, 3) := by decide +kernel
theorem d_M_fits_45 : decode m_M_fits.2.1 45 = .ok (.ireturn, 1) := by decide +kernel
theorem d_M_playsFrom_0 : decode m_M_playsFrom.2.1 0 = .ok (.iload_n 2, 1) := by decide +kernel
theorem d_M_playsFrom_1 : decode m_M_playsFrom.2.1 1 = .ok (.iload_n 3, 1) := by decide +kernel
theorem d_M_playsFrom_2 : decode m_M_playsFrom.2.1 2 = .ok (.if_icmp .ne (25), 3) := by decide +kernel
theorem d_M_playsFrom_5 : decode m_M_playsFrom.2.1 5 = .ok (.aload_n 0, 1) := by decide +kernel
theorem d_M_playsFrom_6 : decode m_M_playsFrom.2.1 6 = .ok (.aload_n 0, 1) := by decide +kernel
theorem d_M_playsFrom_7 : decode m_M_playsFrom.2.1 7 = .ok (.invokevirtual 211, 3) := by decide +kernel
theorem d_M_playsFrom_10 : decode m_M_playsFrom.2.1 10 = .ok (.invokevirtual 214, 3) := by decide +kernel
theorem d_M_playsFrom_13 : decode m_M_playsFrom.2.1 13 = .ok (.iload_n 1, 1) := by decide +kernel
theorem d_M_playsFrom_14 : decode m_M_playsFrom.2.1 14 = .ok (.invokestatic 199, 3) := by decide +kernel
theorem d_M_playsFrom_17 : decode m_M_playsFrom.2.1 17 = .ok (.ifCond .eq (8), 3) := by decide +kernel
theorem d_M_playsFrom_25 : decode m_M_playsFrom.2.1 25 = .ok (.iconst 0, 1) := by decide +kernel
theorem d_M_playsFrom_26 : decode m_M_playsFrom.2.1 26 = .ok (.ireturn, 1) := by decide +kernel
theorem d_M_playsFrom_20 : decode m_M_playsFrom.2.1 20 = .ok (.bipush (100), 2) := by decide +kernel
theorem d_M_playsFrom_22 : decode m_M_playsFrom.2.1 22 = .ok (.goto (4), 3) := by decide +kernel
theorem d_M_playsFrom_27 : decode m_M_playsFrom.2.1 27 = .ok (.aload_n 0, 1) := by decide +kernel
theorem d_M_playsFrom_28 : decode m_M_playsFrom.2.1 28 = .ok (.iload_n 1, 1) := by decide +kernel
theorem d_M_playsFrom_29 : decode m_M_playsFrom.2.1 29 = .ok (.iload_n 2, 1) := by decide +kernel
theorem d_M_playsFrom_30 : decode m_M_playsFrom.2.1 30 = .ok (.iconst 1, 1) := by decide +kernel
theorem d_M_playsFrom_31 : decode m_M_playsFrom.2.1 31 = .ok (.iadd, 1) := by decide +kernel
theorem d_M_playsFrom_32 : decode m_M_playsFrom.2.1 32 = .ok (.iload_n 3, 1) := by decide +kernel
theorem d_M_playsFrom_33 : decode m_M_playsFrom.2.1 33 = .ok (.iload 4, 2) := by decide +kernel
theorem d_M_playsFrom_35 : decode m_M_playsFrom.2.1 35 = .ok (.invokevirtual 270, 3) := by decide +kernel
theorem d_M_playsFrom_38 : decode m_M_playsFrom.2.1 38 = .ok (.istore 5, 2) := by decide +kernel
theorem d_M_playsFrom_40 : decode m_M_playsFrom.2.1 40 = .ok (.iconst 0, 1) := by decide +kernel
theorem d_M_playsFrom_41 : decode m_M_playsFrom.2.1 41 = .ok (.istore 6, 2) := by decide +kernel
theorem d_M_playsFrom_43 : decode m_M_playsFrom.2.1 43 = .ok (.iload 6, 2) := by decide +kernel
theorem d_M_playsFrom_45 : decode m_M_playsFrom.2.1 45 = .ok (.aload_n 0, 1) := by decide +kernel
theorem d_M_playsFrom_46 : decode m_M_playsFrom.2.1 46 = .ok (.getfield 81, 3) := by decide +kernel
theorem d_M_playsFrom_49 : decode m_M_playsFrom.2.1 49 = .ok (.if_icmp .ge (161), 3) := by decide +kernel
theorem d_M_playsFrom_210 : decode m_M_playsFrom.2.1 210 = .ok (.iload 5, 2) := by decide +kernel
theorem d_M_playsFrom_212 : decode m_M_playsFrom.2.1 212 = .ok (.ireturn, 1) := by decide +kernel
theorem d_M_playsFrom_52 : decode m_M_playsFrom.2.1 52 = .ok (.aload_n 0, 1) := by decide +kernel
theorem d_M_playsFrom_53 : decode m_M_playsFrom.2.1 53 = .ok (.getfield 9, 3) := by decide +kernel
theorem d_M_playsFrom_56 : decode m_M_playsFrom.2.1 56 = .ok (.bipush (30), 2) := by decide +kernel
theorem d_M_playsFrom_58 : decode m_M_playsFrom.2.1 58 = .ok (.iload 6, 2) := by decide +kernel
theorem d_M_playsFrom_60 : decode m_M_playsFrom.2.1 60 = .ok (.iadd, 1) := by decide +kernel
theorem d_M_playsFrom_61 : decode m_M_playsFrom.2.1 61 = .ok (.iaload, 1) := by decide +kernel
theorem d_M_playsFrom_62 : decode m_M_playsFrom.2.1 62 = .ok (.ifCond .ge (142), 3) := by decide +kernel
theorem d_M_playsFrom_204 : decode m_M_playsFrom.2.1 204 = .ok (.iinc 6 (1), 3) := by decide +kernel
theorem d_M_playsFrom_207 : decode m_M_playsFrom.2.1 207 = .ok (.goto (-164), 3) := by decide +kernel
theorem d_M_playsFrom_65 : decode m_M_playsFrom.2.1 65 = .ok (.iload 4, 2) := by decide +kernel
theorem d_M_playsFrom_67 : decode m_M_playsFrom.2.1 67 = .ok (.iload 6, 2) := by decide +kernel
theorem d_M_playsFrom_69 : decode m_M_playsFrom.2.1 69 = .ok (.invokestatic 199, 3) := by decide +kernel
theorem d_M_playsFrom_72 : decode m_M_playsFrom.2.1 72 = .ok (.ifCond .ne (132), 3) := by decide +kernel
theorem d_M_playsFrom_75 : decode m_M_playsFrom.2.1 75 = .ok (.aload_n 0, 1) := by decide +kernel
theorem d_M_playsFrom_76 : decode m_M_playsFrom.2.1 76 = .ok (.getfield 31, 3) := by decide +kernel
theorem d_M_playsFrom_79 : decode m_M_playsFrom.2.1 79 = .ok (.iload 6, 2) := by decide +kernel
theorem d_M_playsFrom_81 : decode m_M_playsFrom.2.1 81 = .ok (.iaload, 1) := by decide +kernel
theorem d_M_playsFrom_82 : decode m_M_playsFrom.2.1 82 = .ok (.istore 7, 2) := by decide +kernel
theorem d_M_playsFrom_84 : decode m_M_playsFrom.2.1 84 = .ok (.aload_n 0, 1) := by decide +kernel
theorem d_M_playsFrom_85 : decode m_M_playsFrom.2.1 85 = .ok (.getfield 31, 3) := by decide +kernel
theorem d_M_playsFrom_88 : decode m_M_playsFrom.2.1 88 = .ok (.iload 6, 2) := by decide +kernel
theorem d_M_playsFrom_90 : decode m_M_playsFrom.2.1 90 = .ok (.iload_n 2, 1) := by decide +kernel
theorem d_M_playsFrom_91 : decode m_M_playsFrom.2.1 91 = .ok (.iconst 2, 1) := by decide +kernel
theorem d_M_playsFrom_92 : decode m_M_playsFrom.2.1 92 = .ok (.irem, 1) := by decide +kernel
theorem d_M_playsFrom_93 : decode m_M_playsFrom.2.1 93 = .ok (.ifCond .ne (7), 3) := by decide +kernel
theorem d_M_playsFrom_96 : decode m_M_playsFrom.2.1 96 = .ok (.iload_n 1, 1) := by decide +kernel
theorem d_M_playsFrom_97 : decode m_M_playsFrom.2.1 97 = .ok (.goto (9), 3) := by decide +kernel
theorem d_M_playsFrom_106 : decode m_M_playsFrom.2.1 106 = .ok (.iastore, 1) := by decide +kernel
theorem d_M_playsFrom_107 : decode m_M_playsFrom.2.1 107 = .ok (.aload_n 0, 1) := by decide +kernel
theorem d_M_playsFrom_108 : decode m_M_playsFrom.2.1 108 = .ok (.iload_n 1, 1) := by decide +kernel
theorem d_M_playsFrom_109 : decode m_M_playsFrom.2.1 109 = .ok (.iload_n 2, 1) := by decide +kernel
theorem d_M_playsFrom_110 : decode m_M_playsFrom.2.1 110 = .ok (.iconst 1, 1) := by decide +kernel
theorem d_M_playsFrom_111 : decode m_M_playsFrom.2.1 111 = .ok (.iadd, 1) := by decide +kernel
theorem d_M_playsFrom_112 : decode m_M_playsFrom.2.1 112 = .ok (.iload_n 3, 1) := by decide +kernel
theorem d_M_playsFrom_113 : decode m_M_playsFrom.2.1 113 = .ok (.iload 4, 2) := by decide +kernel
theorem d_M_playsFrom_115 : decode m_M_playsFrom.2.1 115 = .ok (.iconst 1, 1) := by decide +kernel
theorem d_M_playsFrom_116 : decode m_M_playsFrom.2.1 116 = .ok (.iload 6, 2) := by decide +kernel
theorem d_M_playsFrom_118 : decode m_M_playsFrom.2.1 118 = .ok (.ishl, 1) := by decide +kernel
theorem d_M_playsFrom_119 : decode m_M_playsFrom.2.1 119 = .ok (.ior, 1) := by decide +kernel
theorem d_M_playsFrom_120 : decode m_M_playsFrom.2.1 120 = .ok (.invokevirtual 270, 3) := by decide +kernel
theorem d_M_playsFrom_123 : decode m_M_playsFrom.2.1 123 = .ok (.iload_n 2, 1) := by decide +kernel
theorem d_M_playsFrom_124 : decode m_M_playsFrom.2.1 124 = .ok (.iconst 2, 1) := by decide +kernel
theorem d_M_playsFrom_125 : decode m_M_playsFrom.2.1 125 = .ok (.irem, 1) := by decide +kernel
theorem d_M_playsFrom_126 : decode m_M_playsFrom.2.1 126 = .ok (.ifCond .ne (17), 3) := by decide +kernel
theorem d_M_playsFrom_129 : decode m_M_playsFrom.2.1 129 = .ok (.aload_n 0, 1) := by decide +kernel
theorem d_M_playsFrom_130 : decode m_M_playsFrom.2.1 130 = .ok (.getfield 9, 3) := by decide +kernel
theorem d_M_playsFrom_133 : decode m_M_playsFrom.2.1 133 = .ok (.bipush (20), 2) := by decide +kernel
theorem d_M_playsFrom_135 : decode m_M_playsFrom.2.1 135 = .ok (.iload 6, 2) := by decide +kernel
theorem d_M_playsFrom_137 : decode m_M_playsFrom.2.1 137 = .ok (.iadd, 1) := by decide +kernel
theorem d_M_playsFrom_138 : decode m_M_playsFrom.2.1 138 = .ok (.iaload, 1) := by decide +kernel
theorem d_M_playsFrom_139 : decode m_M_playsFrom.2.1 139 = .ok (.ineg, 1) := by decide +kernel
theorem d_M_playsFrom_140 : decode m_M_playsFrom.2.1 140 = .ok (.goto (13), 3) := by decide +kernel
theorem d_M_playsFrom_153 : decode m_M_playsFrom.2.1 153 = .ok (.iadd, 1) := by decide +kernel
theorem d_M_playsFrom_154 : decode m_M_playsFrom.2.1 154 = .ok (.istore 8, 2) := by decide +kernel
theorem d_M_playsFrom_156 : decode m_M_playsFrom.2.1 156 = .ok (.aload_n 0, 1) := by decide +kernel
theorem d_M_playsFrom_157 : decode m_M_playsFrom.2.1 157 = .ok (.getfield 31, 3) := by decide +kernel
theorem d_M_playsFrom_160 : decode m_M_playsFrom.2.1 160 = .ok (.iload 6, 2) := by decide +kernel
theorem d_M_playsFrom_162 : decode m_M_playsFrom.2.1 162 = .ok (.iload 7, 2) := by decide +kernel
theorem d_M_playsFrom_164 : decode m_M_playsFrom.2.1 164 = .ok (.iastore, 1) := by decide +kernel
theorem d_M_playsFrom_165 : decode m_M_playsFrom.2.1 165 = .ok (.iload_n 2, 1) := by decide +kernel
theorem d_M_playsFrom_166 : decode m_M_playsFrom.2.1 166 = .ok (.iconst 2, 1) := by decide +kernel
theorem d_M_playsFrom_167 : decode m_M_playsFrom.2.1 167 = .ok (.irem, 1) := by decide +kernel
theorem d_M_playsFrom_168 : decode m_M_playsFrom.2.1 168 = .ok (.ifCond .ne (20), 3) := by decide +kernel
theorem d_M_playsFrom_171 : decode m_M_playsFrom.2.1 171 = .ok (.iload 8, 2) := by decide +kernel
theorem d_M_playsFrom_173 : decode m_M_playsFrom.2.1 173 = .ok (.iload 5, 2) := by decide +kernel
theorem d_M_playsFrom_175 : decode m_M_playsFrom.2.1 175 = .ok (.if_icmp .le (8), 3) := by decide +kernel
theorem d_M_playsFrom_183 : decode m_M_playsFrom.2.1 183 = .ok (.iload 5, 2) := by decide +kernel
theorem d_M_playsFrom_185 : decode m_M_playsFrom.2.1 185 = .ok (.goto (17), 3) := by decide +kernel
theorem d_M_playsFrom_202 : decode m_M_playsFrom.2.1 202 = .ok (.istore 5, 2) := by decide +kernel
theorem d_M_playsFrom_178 : decode m_M_playsFrom.2.1 178 = .ok (.iload 8, 2) := by decide +kernel
theorem d_M_playsFrom_180 : decode m_M_playsFrom.2.1 180 = .ok (.goto (22), 3) := by decide +kernel
theorem d_M_playsFrom_188 : decode m_M_playsFrom.2.1 188 = .ok (.iload 8, 2) := by decide +kernel
theorem d_M_playsFrom_190 : decode m_M_playsFrom.2.1 190 = .ok (.iload 5, 2) := by decide +kernel
theorem d_M_playsFrom_192 : decode m_M_playsFrom.2.1 192 = .ok (.if_icmp .ge (8), 3) := by decide +kernel
theorem d_M_playsFrom_200 : decode m_M_playsFrom.2.1 200 = .ok (.iload 5, 2) := by decide +kernel
theorem d_M_playsFrom_195 : decode m_M_playsFrom.2.1 195 = .ok (.iload 8, 2) := by decide +kernel
theorem d_M_playsFrom_197 : decode m_M_playsFrom.2.1 197 = .ok (.goto (5), 3) := by decide +kernel
theorem d_M_playsFrom_143 : decode m_M_playsFrom.2.1 143 = .ok (.aload_n 0, 1) := by decide +kernel
theorem d_M_playsFrom_144 : decode m_M_playsFrom.2.1 144 = .ok (.getfield 9, 3) := by decide +kernel
theorem d_M_playsFrom_147 : decode m_M_playsFrom.2.1 147 = .ok (.bipush (20), 2) := by decide +kernel
theorem d_M_playsFrom_149 : decode m_M_playsFrom.2.1 149 = .ok (.iload 6, 2) := by decide +kernel
theorem d_M_playsFrom_151 : decode m_M_playsFrom.2.1 151 = .ok (.iadd, 1) := by decide +kernel
theorem d_M_playsFrom_152 : decode m_M_playsFrom.2.1 152 = .ok (.iaload, 1) := by decide +kernel
theorem d_M_playsFrom_100 : decode m_M_playsFrom.2.1 100 = .ok (.iload_n 1, 1) := by decide +kernel
theorem d_M_playsFrom_101 : decode m_M_playsFrom.2.1 101 = .ok (.iconst 1, 1) := by decide +kernel
theorem d_M_playsFrom_102 : decode m_M_playsFrom.2.1 102 = .ok (.iadd, 1) := by decide +kernel
theorem d_M_playsFrom_103 : decode m_M_playsFrom.2.1 103 = .ok (.bipush (6), 2) := by decide +kernel
theorem d_M_playsFrom_105 : decode m_M_playsFrom.2.1 105 = .ok (.irem, 1) := by decide +kernel
theorem d_M_byTurns_0 : decode m_M_byTurns.2.1 0 = .ok (.iload_n 1, 1) := by decide +kernel
theorem d_M_byTurns_1 : decode m_M_byTurns.2.1 1 = .ok (.i2l, 1) := by decide +kernel
theorem d_M_byTurns_2 : decode m_M_byTurns.2.1 2 = .ok (.invokestatic 119, 3) := by decide +kernel
theorem d_M_byTurns_5 : decode m_M_byTurns.2.1 5 = .ok (.ifCond .eq (25), 3) := by decide +kernel
theorem d_M_byTurns_30 : decode m_M_byTurns.2.1 30 = .ok (.ldc 135, 2) := by decide +kernel
theorem d_M_byTurns_32 : decode m_M_byTurns.2.1 32 = .ok (.ireturn, 1) := by decide +kernel
theorem d_M_byTurns_8 : decode m_M_byTurns.2.1 8 = .ok (.iload_n 2, 1) := by decide +kernel
theorem d_M_byTurns_9 : decode m_M_byTurns.2.1 9 = .ok (.i2l, 1) := by decide +kernel
theorem d_M_byTurns_10 : decode m_M_byTurns.2.1 10 = .ok (.lconst 1, 1) := by decide +kernel
theorem d_M_byTurns_11 : decode m_M_byTurns.2.1 11 = .ok (.ldc2_w 115, 3) := by decide +kernel
theorem d_M_byTurns_14 : decode m_M_byTurns.2.1 14 = .ok (.invokestatic 84, 3) := by decide +kernel
theorem d_M_byTurns_17 : decode m_M_byTurns.2.1 17 = .ok (.ifCond .eq (13), 3) := by decide +kernel
theorem d_M_byTurns_20 : decode m_M_byTurns.2.1 20 = .ok (.iload_n 3, 1) := by decide +kernel
theorem d_M_byTurns_21 : decode m_M_byTurns.2.1 21 = .ok (.i2l, 1) := by decide +kernel
theorem d_M_byTurns_22 : decode m_M_byTurns.2.1 22 = .ok (.lconst 0, 1) := by decide +kernel
theorem d_M_byTurns_23 : decode m_M_byTurns.2.1 23 = .ok (.lconst 1, 1) := by decide +kernel
theorem d_M_byTurns_24 : decode m_M_byTurns.2.1 24 = .ok (.invokestatic 84, 3) := by decide +kernel
theorem d_M_byTurns_27 : decode m_M_byTurns.2.1 27 = .ok (.ifCond .ne (6), 3) := by decide +kernel
theorem d_M_byTurns_33 : decode m_M_byTurns.2.1 33 = .ok (.aload_n 0, 1) := by decide +kernel
theorem d_M_byTurns_34 : decode m_M_byTurns.2.1 34 = .ok (.invokevirtual 208, 3) := by decide +kernel
theorem d_M_byTurns_37 : decode m_M_byTurns.2.1 37 = .ok (.aload_n 0, 1) := by decide +kernel
theorem d_M_byTurns_38 : decode m_M_byTurns.2.1 38 = .ok (.iload_n 1, 1) := by decide +kernel
theorem d_M_byTurns_39 : decode m_M_byTurns.2.1 39 = .ok (.iconst 0, 1) := by decide +kernel
theorem d_M_byTurns_40 : decode m_M_byTurns.2.1 40 = .ok (.iload_n 2, 1) := by decide +kernel
theorem d_M_byTurns_41 : decode m_M_byTurns.2.1 41 = .ok (.iconst 0, 1) := by decide +kernel
theorem d_M_byTurns_42 : decode m_M_byTurns.2.1 42 = .ok (.invokevirtual 270, 3) := by decide +kernel
theorem d_M_byTurns_45 : decode m_M_byTurns.2.1 45 = .ok (.istore 4, 2) := by decide +kernel
theorem d_M_byTurns_47 : decode m_M_byTurns.2.1 47 = .ok (.iload_n 3, 1) := by decide +kernel
theorem d_M_byTurns_48 : decode m_M_byTurns.2.1 48 = .ok (.ifCond .ne (6), 3) := by decide +kernel
theorem d_M_byTurns_51 : decode m_M_byTurns.2.1 51 = .ok (.iload 4, 2) := by decide +kernel
theorem d_M_byTurns_53 : decode m_M_byTurns.2.1 53 = .ok (.ireturn, 1) := by decide +kernel
theorem d_M_byTurns_54 : decode m_M_byTurns.2.1 54 = .ok (.aload_n 0, 1) := by decide +kernel
theorem d_M_byTurns_55 : decode m_M_byTurns.2.1 55 = .ok (.iload_n 1, 1) := by decide +kernel
theorem d_M_byTurns_56 : decode m_M_byTurns.2.1 56 = .ok (.iconst 1, 1) := by decide +kernel
theorem d_M_byTurns_57 : decode m_M_byTurns.2.1 57 = .ok (.iload_n 2, 1) := by decide +kernel
theorem d_M_byTurns_58 : decode m_M_byTurns.2.1 58 = .ok (.iconst 0, 1) := by decide +kernel
theorem d_M_byTurns_59 : decode m_M_byTurns.2.1 59 = .ok (.invokevirtual 270, 3) := by decide +kernel
theorem d_M_byTurns_62 : decode m_M_byTurns.2.1 62 = .ok (.iload 4, 2) := by decide +kernel
theorem d_M_byTurns_64 : decode m_M_byTurns.2.1 64 = .ok (.if_icmp .ne (8), 3) := by decide +kernel
theorem d_M_byTurns_67 : decode m_M_byTurns.2.1 67 = .ok (.bipush (10), 2) := by decide +kernel
theorem d_M_byTurns_69 : decode m_M_byTurns.2.1 69 = .ok (.goto (4), 3) := by decide +kernel
theorem d_M_byTurns_73 : decode m_M_byTurns.2.1 73 = .ok (.istore 5, 2) := by decide +kernel
theorem d_M_byTurns_75 : decode m_M_byTurns.2.1 75 = .ok (.iconst 0, 1) := by decide +kernel
theorem d_M_byTurns_76 : decode m_M_byTurns.2.1 76 = .ok (.istore 6, 2) := by decide +kernel
theorem d_M_byTurns_78 : decode m_M_byTurns.2.1 78 = .ok (.iload 6, 2) := by decide +kernel
theorem d_M_byTurns_80 : decode m_M_byTurns.2.1 80 = .ok (.aload_n 0, 1) := by decide +kernel
theorem d_M_byTurns_81 : decode m_M_byTurns.2.1 81 = .ok (.getfield 81, 3) := by decide +kernel
theorem d_M_byTurns_84 : decode m_M_byTurns.2.1 84 = .ok (.if_icmp .ge (88), 3) := by decide +kernel
theorem d_M_byTurns_172 : decode m_M_byTurns.2.1 172 = .ok (.iload 5, 2) := by decide +kernel
theorem d_M_byTurns_174 : decode m_M_byTurns.2.1 174 = .ok (.ireturn, 1) := by decide +kernel
theorem d_M_byTurns_87 : decode m_M_byTurns.2.1 87 = .ok (.iload 5, 2) := by decide +kernel
theorem d_M_byTurns_89 : decode m_M_byTurns.2.1 89 = .ok (.ifCond .ge (83), 3) := by decide +kernel
theorem d_M_byTurns_92 : decode m_M_byTurns.2.1 92 = .ok (.aload_n 0, 1) := by decide +kernel
theorem d_M_byTurns_93 : decode m_M_byTurns.2.1 93 = .ok (.getfield 9, 3) := by decide +kernel
theorem d_M_byTurns_96 : decode m_M_byTurns.2.1 96 = .ok (.bipush (30), 2) := by decide +kernel
theorem d_M_byTurns_98 : decode m_M_byTurns.2.1 98 = .ok (.iload 6, 2) := by decide +kernel
theorem d_M_byTurns_100 : decode m_M_byTurns.2.1 100 = .ok (.iadd, 1) := by decide +kernel
theorem d_M_byTurns_101 : decode m_M_byTurns.2.1 101 = .ok (.iaload, 1) := by decide +kernel
theorem d_M_byTurns_102 : decode m_M_byTurns.2.1 102 = .ok (.ifCond .ge (64), 3) := by decide +kernel
theorem d_M_byTurns_166 : decode m_M_byTurns.2.1 166 = .ok (.iinc 6 (1), 3) := by decide +kernel
theorem d_M_byTurns_169 : decode m_M_byTurns.2.1 169 = .ok (.goto (-91), 3) := by decide +kernel
theorem d_M_byTurns_105 : decode m_M_byTurns.2.1 105 = .ok (.aload_n 0, 1) := by decide +kernel
theorem d_M_byTurns_106 : decode m_M_byTurns.2.1 106 = .ok (.getfield 31, 3) := by decide +kernel
theorem d_M_byTurns_109 : decode m_M_byTurns.2.1 109 = .ok (.iload 6, 2) := by decide +kernel
theorem d_M_byTurns_111 : decode m_M_byTurns.2.1 111 = .ok (.iaload, 1) := by decide +kernel
theorem d_M_byTurns_112 : decode m_M_byTurns.2.1 112 = .ok (.istore 7, 2) := by decide +kernel
theorem d_M_byTurns_114 : decode m_M_byTurns.2.1 114 = .ok (.aload_n 0, 1) := by decide +kernel
theorem d_M_byTurns_115 : decode m_M_byTurns.2.1 115 = .ok (.getfield 31, 3) := by decide +kernel
theorem d_M_byTurns_118 : decode m_M_byTurns.2.1 118 = .ok (.iload 6, 2) := by decide +kernel
theorem d_M_byTurns_120 : decode m_M_byTurns.2.1 120 = .ok (.iload_n 1, 1) := by decide +kernel
theorem d_M_byTurns_121 : decode m_M_byTurns.2.1 121 = .ok (.iastore, 1) := by decide +kernel
theorem d_M_byTurns_122 : decode m_M_byTurns.2.1 122 = .ok (.aload_n 0, 1) := by decide +kernel
theorem d_M_byTurns_123 : decode m_M_byTurns.2.1 123 = .ok (.iload_n 1, 1) := by decide +kernel
theorem d_M_byTurns_124 : decode m_M_byTurns.2.1 124 = .ok (.iconst 1, 1) := by decide +kernel
theorem d_M_byTurns_125 : decode m_M_byTurns.2.1 125 = .ok (.iload_n 2, 1) := by decide +kernel
theorem d_M_byTurns_126 : decode m_M_byTurns.2.1 126 = .ok (.iconst 1, 1) := by decide +kernel
theorem d_M_byTurns_127 : decode m_M_byTurns.2.1 127 = .ok (.iload 6, 2) := by decide +kernel
theorem d_M_byTurns_129 : decode m_M_byTurns.2.1 129 = .ok (.ishl, 1) := by decide +kernel
theorem d_M_byTurns_130 : decode m_M_byTurns.2.1 130 = .ok (.invokevirtual 270, 3) := by decide +kernel
theorem d_M_byTurns_133 : decode m_M_byTurns.2.1 133 = .ok (.aload_n 0, 1) := by decide +kernel
theorem d_M_byTurns_134 : decode m_M_byTurns.2.1 134 = .ok (.getfield 9, 3) := by decide +kernel
theorem d_M_byTurns_137 : decode m_M_byTurns.2.1 137 = .ok (.bipush (20), 2) := by decide +kernel
theorem d_M_byTurns_139 : decode m_M_byTurns.2.1 139 = .ok (.iload 6, 2) := by decide +kernel
theorem d_M_byTurns_141 : decode m_M_byTurns.2.1 141 = .ok (.iadd, 1) := by decide +kernel
theorem d_M_byTurns_142 : decode m_M_byTurns.2.1 142 = .ok (.iaload, 1) := by decide +kernel
theorem d_M_byTurns_143 : decode m_M_byTurns.2.1 143 = .ok (.isub, 1) := by decide +kernel
theorem d_M_byTurns_144 : decode m_M_byTurns.2.1 144 = .ok (.iload 4, 2) := by decide +kernel
theorem d_M_byTurns_146 : decode m_M_byTurns.2.1 146 = .ok (.if_icmp .ne (8), 3) := by decide +kernel
theorem d_M_byTurns_149 : decode m_M_byTurns.2.1 149 = .ok (.iload 6, 2) := by decide +kernel
theorem d_M_byTurns_151 : decode m_M_byTurns.2.1 151 = .ok (.goto (4), 3) := by decide +kernel
theorem d_M_byTurns_155 : decode m_M_byTurns.2.1 155 = .ok (.istore 5, 2) := by decide +kernel
theorem d_M_byTurns_157 : decode m_M_byTurns.2.1 157 = .ok (.aload_n 0, 1) := by decide +kernel
theorem d_M_byTurns_158 : decode m_M_byTurns.2.1 158 = .ok (.getfield 31, 3) := by decide +kernel
theorem d_M_byTurns_161 : decode m_M_byTurns.2.1 161 = .ok (.iload 6, 2) := by decide +kernel
theorem d_M_byTurns_163 : decode m_M_byTurns.2.1 163 = .ok (.iload 7, 2) := by decide +kernel
theorem d_M_byTurns_165 : decode m_M_byTurns.2.1 165 = .ok (.iastore, 1) := by decide +kernel
theorem d_M_byTurns_154 : decode m_M_byTurns.2.1 154 = .ok (.iconst (-1), 1) := by decide +kernel
theorem d_M_byTurns_72 : decode m_M_byTurns.2.1 72 = .ok (.iconst (-1), 1) := by decide +kernel
theorem d_M_drawn_0 : decode m_M_drawn.2.1 0 = .ok (.iload_n 2, 1) := by decide +kernel
theorem d_M_drawn_1 : decode m_M_drawn.2.1 1 = .ok (.ifCond .lt (45), 3) := by decide +kernel
theorem d_M_drawn_46 : decode m_M_drawn.2.1 46 = .ok (.iconst (-1), 1) := by decide +kernel
theorem d_M_drawn_47 : decode m_M_drawn.2.1 47 = .ok (.ireturn, 1) := by decide +kernel
theorem d_M_drawn_4 : decode m_M_drawn.2.1 4 = .ok (.iload_n 2, 1) := by decide +kernel
theorem d_M_drawn_5 : decode m_M_drawn.2.1 5 = .ok (.bipush (100), 2) := by decide +kernel
theorem d_M_drawn_7 : decode m_M_drawn.2.1 7 = .ok (.idiv, 1) := by decide +kernel
theorem d_M_drawn_8 : decode m_M_drawn.2.1 8 = .ok (.i2l, 1) := by decide +kernel
theorem d_M_drawn_9 : decode m_M_drawn.2.1 9 = .ok (.lconst 1, 1) := by decide +kernel
theorem d_M_drawn_10 : decode m_M_drawn.2.1 10 = .ok (.ldc2_w 274, 3) := by decide +kernel
theorem d_M_drawn_13 : decode m_M_drawn.2.1 13 = .ok (.invokestatic 84, 3) := by decide +kernel
theorem d_M_drawn_16 : decode m_M_drawn.2.1 16 = .ok (.ifCond .eq (30), 3) := by decide +kernel
theorem d_M_drawn_19 : decode m_M_drawn.2.1 19 = .ok (.iload_n 2, 1) := by decide +kernel
theorem d_M_drawn_20 : decode m_M_drawn.2.1 20 = .ok (.bipush (100), 2) := by decide +kernel
theorem d_M_drawn_22 : decode m_M_drawn.2.1 22 = .ok (.irem, 1) := by decide +kernel
theorem d_M_drawn_23 : decode m_M_drawn.2.1 23 = .ok (.i2l, 1) := by decide +kernel
theorem d_M_drawn_24 : decode m_M_drawn.2.1 24 = .ok (.lconst 1, 1) := by decide +kernel
theorem d_M_drawn_25 : decode m_M_drawn.2.1 25 = .ok (.ldc2_w 223, 3) := by decide +kernel
theorem d_M_drawn_28 : decode m_M_drawn.2.1 28 = .ok (.invokestatic 84, 3) := by decide +kernel
theorem d_M_drawn_31 : decode m_M_drawn.2.1 31 = .ok (.ifCond .eq (15), 3) := by decide +kernel
theorem d_M_drawn_34 : decode m_M_drawn.2.1 34 = .ok (.iload_n 3, 1) := by decide +kernel
theorem d_M_drawn_35 : decode m_M_drawn.2.1 35 = .ok (.i2l, 1) := by decide +kernel
theorem d_M_drawn_36 : decode m_M_drawn.2.1 36 = .ok (.lconst 0, 1) := by decide +kernel
theorem d_M_drawn_37 : decode m_M_drawn.2.1 37 = .ok (.ldc2_w 117, 3) := by decide +kernel
theorem d_M_drawn_40 : decode m_M_drawn.2.1 40 = .ok (.invokestatic 84, 3) := by decide +kernel
theorem d_M_drawn_43 : decode m_M_drawn.2.1 43 = .ok (.ifCond .ne (5), 3) := by decide +kernel
theorem d_M_drawn_48 : decode m_M_drawn.2.1 48 = .ok (.iload_n 1, 1) := by decide +kernel
theorem d_M_drawn_49 : decode m_M_drawn.2.1 49 = .ok (.istore 4, 2) := by decide +kernel
theorem d_M_drawn_51 : decode m_M_drawn.2.1 51 = .ok (.iconst 0, 1) := by decide +kernel
theorem d_M_drawn_52 : decode m_M_drawn.2.1 52 = .ok (.istore 5, 2) := by decide +kernel
theorem d_M_drawn_54 : decode m_M_drawn.2.1 54 = .ok (.iconst 0, 1) := by decide +kernel
theorem d_M_drawn_55 : decode m_M_drawn.2.1 55 = .ok (.istore 6, 2) := by decide +kernel
theorem d_M_drawn_57 : decode m_M_drawn.2.1 57 = .ok (.iload 6, 2) := by decide +kernel
theorem d_M_drawn_59 : decode m_M_drawn.2.1 59 = .ok (.iload_n 2, 1) := by decide +kernel
theorem d_M_drawn_60 : decode m_M_drawn.2.1 60 = .ok (.bipush (100), 2) := by decide +kernel
theorem d_M_drawn_62 : decode m_M_drawn.2.1 62 = .ok (.idiv, 1) := by decide +kernel
theorem d_M_drawn_63 : decode m_M_drawn.2.1 63 = .ok (.if_icmp .ge (130), 3) := by decide +kernel
theorem d_M_drawn_193 : decode m_M_drawn.2.1 193 = .ok (.iload 5, 2) := by decide +kernel
theorem d_M_drawn_195 : decode m_M_drawn.2.1 195 = .ok (.ireturn, 1) := by decide +kernel
theorem d_M_drawn_66 : decode m_M_drawn.2.1 66 = .ok (.iconst 0, 1) := by decide +kernel
theorem d_M_drawn_67 : decode m_M_drawn.2.1 67 = .ok (.istore 7, 2) := by decide +kernel
theorem d_M_drawn_69 : decode m_M_drawn.2.1 69 = .ok (.iload 7, 2) := by decide +kernel
theorem d_M_drawn_71 : decode m_M_drawn.2.1 71 = .ok (.iload_n 2, 1) := by decide +kernel
theorem d_M_drawn_72 : decode m_M_drawn.2.1 72 = .ok (.bipush (100), 2) := by decide +kernel
theorem d_M_drawn_74 : decode m_M_drawn.2.1 74 = .ok (.irem, 1) := by decide +kernel
theorem d_M_drawn_75 : decode m_M_drawn.2.1 75 = .ok (.if_icmp .ge (112), 3) := by decide +kernel
theorem d_M_drawn_187 : decode m_M_drawn.2.1 187 = .ok (.iinc 6 (1), 3) := by decide +kernel
theorem d_M_drawn_190 : decode m_M_drawn.2.1 190 = .ok (.goto (-133), 3) := by decide +kernel
theorem d_M_drawn_78 : decode m_M_drawn.2.1 78 = .ok (.iload 4, 2) := by decide +kernel
theorem d_M_drawn_80 : decode m_M_drawn.2.1 80 = .ok (.ldc_w 276, 3) := by decide +kernel
theorem d_M_drawn_83 : decode m_M_drawn.2.1 83 = .ok (.imul, 1) := by decide +kernel
theorem d_M_drawn_84 : decode m_M_drawn.2.1 84 = .ok (.sipush (12345), 3) := by decide +kernel
theorem d_M_drawn_87 : decode m_M_drawn.2.1 87 = .ok (.iadd, 1) := by decide +kernel
theorem d_M_drawn_88 : decode m_M_drawn.2.1 88 = .ok (.istore 4, 2) := by decide +kernel
theorem d_M_drawn_90 : decode m_M_drawn.2.1 90 = .ok (.aload_n 0, 1) := by decide +kernel
theorem d_M_drawn_91 : decode m_M_drawn.2.1 91 = .ok (.iload 4, 2) := by decide +kernel
theorem d_M_drawn_93 : decode m_M_drawn.2.1 93 = .ok (.bipush (8), 2) := by decide +kernel
theorem d_M_drawn_95 : decode m_M_drawn.2.1 95 = .ok (.iushr, 1) := by decide +kernel
theorem d_M_drawn_96 : decode m_M_drawn.2.1 96 = .ok (.bipush (6), 2) := by decide +kernel
theorem d_M_drawn_98 : decode m_M_drawn.2.1 98 = .ok (.irem, 1) := by decide +kernel
theorem d_M_drawn_99 : decode m_M_drawn.2.1 99 = .ok (.aload_n 0, 1) := by decide +kernel
theorem d_M_drawn_100 : decode m_M_drawn.2.1 100 = .ok (.getfield 9, 3) := by decide +kernel
theorem d_M_drawn_103 : decode m_M_drawn.2.1 103 = .ok (.bipush (42), 2) := by decide +kernel
theorem d_M_drawn_105 : decode m_M_drawn.2.1 105 = .ok (.iaload, 1) := by decide +kernel
theorem d_M_drawn_106 : decode m_M_drawn.2.1 106 = .ok (.iload 7, 2) := by decide +kernel
theorem d_M_drawn_108 : decode m_M_drawn.2.1 108 = .ok (.iadd, 1) := by decide +kernel
theorem d_M_drawn_109 : decode m_M_drawn.2.1 109 = .ok (.invokestatic 255, 3) := by decide +kernel
theorem d_M_drawn_112 : decode m_M_drawn.2.1 112 = .ok (.invokevirtual 195, 3) := by decide +kernel
theorem d_M_drawn_115 : decode m_M_drawn.2.1 115 = .ok (.aload_n 0, 1) := by decide +kernel
theorem d_M_drawn_116 : decode m_M_drawn.2.1 116 = .ok (.getfield 81, 3) := by decide +kernel
theorem d_M_drawn_119 : decode m_M_drawn.2.1 119 = .ok (.ifCond .ne (7), 3) := by decide +kernel
theorem d_M_drawn_122 : decode m_M_drawn.2.1 122 = .ok (.iconst 0, 1) := by decide +kernel
theorem d_M_drawn_123 : decode m_M_drawn.2.1 123 = .ok (.goto (26), 3) := by decide +kernel
theorem d_M_drawn_149 : decode m_M_drawn.2.1 149 = .ok (.istore 8, 2) := by decide +kernel
theorem d_M_drawn_151 : decode m_M_drawn.2.1 151 = .ok (.iload 5, 2) := by decide +kernel
theorem d_M_drawn_153 : decode m_M_drawn.2.1 153 = .ok (.iload_n 3, 1) := by decide +kernel
theorem d_M_drawn_154 : decode m_M_drawn.2.1 154 = .ok (.bipush (6), 2) := by decide +kernel
theorem d_M_drawn_156 : decode m_M_drawn.2.1 156 = .ok (.if_icmp .ne (16), 3) := by decide +kernel
theorem d_M_drawn_159 : decode m_M_drawn.2.1 159 = .ok (.iload 8, 2) := by decide +kernel
theorem d_M_drawn_161 : decode m_M_drawn.2.1 161 = .ok (.ifCond .ne (7), 3) := by decide +kernel
theorem d_M_drawn_164 : decode m_M_drawn.2.1 164 = .ok (.iconst 1, 1) := by decide +kernel
theorem d_M_drawn_165 : decode m_M_drawn.2.1 165 = .ok (.goto (13), 3) := by decide +kernel
theorem d_M_drawn_178 : decode m_M_drawn.2.1 178 = .ok (.iadd, 1) := by decide +kernel
theorem d_M_drawn_179 : decode m_M_drawn.2.1 179 = .ok (.istore 5, 2) := by decide +kernel
theorem d_M_drawn_181 : decode m_M_drawn.2.1 181 = .ok (.iinc 7 (1), 3) := by decide +kernel
theorem d_M_drawn_184 : decode m_M_drawn.2.1 184 = .ok (.goto (-115), 3) := by decide +kernel
theorem d_M_drawn_168 : decode m_M_drawn.2.1 168 = .ok (.iconst 0, 1) := by decide +kernel
theorem d_M_drawn_169 : decode m_M_drawn.2.1 169 = .ok (.goto (9), 3) := by decide +kernel
theorem d_M_drawn_172 : decode m_M_drawn.2.1 172 = .ok (.iload 8, 2) := by decide +kernel
theorem d_M_drawn_174 : decode m_M_drawn.2.1 174 = .ok (.iload_n 3, 1) := by decide +kernel
theorem d_M_drawn_175 : decode m_M_drawn.2.1 175 = .ok (.ishr, 1) := by decide +kernel
theorem d_M_drawn_176 : decode m_M_drawn.2.1 176 = .ok (.iconst 1, 1) := by decide +kernel
theorem d_M_drawn_177 : decode m_M_drawn.2.1 177 = .ok (.iand, 1) := by decide +kernel
theorem d_M_drawn_126 : decode m_M_drawn.2.1 126 = .ok (.aload_n 0, 1) := by decide +kernel
theorem d_M_drawn_127 : decode m_M_drawn.2.1 127 = .ok (.aload_n 0, 1) := by decide +kernel
theorem d_M_drawn_128 : decode m_M_drawn.2.1 128 = .ok (.invokevirtual 211, 3) := by decide +kernel
theorem d_M_drawn_131 : decode m_M_drawn.2.1 131 = .ok (.iconst 1, 1) := by decide +kernel
theorem d_M_drawn_132 : decode m_M_drawn.2.1 132 = .ok (.iload 4, 2) := by decide +kernel
theorem d_M_drawn_134 : decode m_M_drawn.2.1 134 = .ok (.bipush (16), 2) := by decide +kernel
theorem d_M_drawn_136 : decode m_M_drawn.2.1 136 = .ok (.iushr, 1) := by decide +kernel
theorem d_M_drawn_137 : decode m_M_drawn.2.1 137 = .ok (.aload_n 0, 1) := by decide +kernel
theorem d_M_drawn_138 : decode m_M_drawn.2.1 138 = .ok (.getfield 81, 3) := by decide +kernel
theorem d_M_drawn_141 : decode m_M_drawn.2.1 141 = .ok (.irem, 1) := by decide +kernel
theorem d_M_drawn_142 : decode m_M_drawn.2.1 142 = .ok (.ishl, 1) := by decide +kernel
theorem d_M_drawn_143 : decode m_M_drawn.2.1 143 = .ok (.iconst (-1), 1) := by decide +kernel
theorem d_M_drawn_144 : decode m_M_drawn.2.1 144 = .ok (.ixor, 1) := by decide +kernel
theorem d_M_drawn_145 : decode m_M_drawn.2.1 145 = .ok (.iand, 1) := by decide +kernel
theorem d_M_drawn_146 : decode m_M_drawn.2.1 146 = .ok (.invokevirtual 214, 3) := by decide +kernel
theorem d_M_claim_0 : decode m_M_claim.2.1 0 = .ok (.aload_n 0, 1) := by decide +kernel
theorem d_M_claim_1 : decode m_M_claim.2.1 1 = .ok (.iload_n 1, 1) := by decide +kernel
theorem d_M_claim_2 : decode m_M_claim.2.1 2 = .ok (.i2l, 1) := by decide +kernel
theorem d_M_claim_3 : decode m_M_claim.2.1 3 = .ok (.invokevirtual 111, 3) := by decide +kernel
theorem d_M_claim_6 : decode m_M_claim.2.1 6 = .ok (.ifCond .ne (5), 3) := by decide +kernel
theorem d_M_claim_9 : decode m_M_claim.2.1 9 = .ok (.iconst (-1), 1) := by decide +kernel
theorem d_M_claim_10 : decode m_M_claim.2.1 10 = .ok (.ireturn, 1) := by decide +kernel
theorem d_M_claim_11 : decode m_M_claim.2.1 11 = .ok (.aload_n 0, 1) := by decide +kernel
theorem d_M_claim_12 : decode m_M_claim.2.1 12 = .ok (.getfield 277, 3) := by decide +kernel
theorem d_M_claim_15 : decode m_M_claim.2.1 15 = .ok (.iload_n 1, 1) := by decide +kernel
theorem d_M_claim_16 : decode m_M_claim.2.1 16 = .ok (.invokestatic 199, 3) := by decide +kernel
theorem d_M_claim_19 : decode m_M_claim.2.1 19 = .ok (.ifCond .eq (6), 3) := by decide +kernel
theorem d_M_claim_25 : decode m_M_claim.2.1 25 = .ok (.aload_n 0, 1) := by decide +kernel
theorem d_M_claim_26 : decode m_M_claim.2.1 26 = .ok (.invokevirtual 208, 3) := by decide +kernel
theorem d_M_claim_29 : decode m_M_claim.2.1 29 = .ok (.iconst 0, 1) := by decide +kernel
theorem d_M_claim_30 : decode m_M_claim.2.1 30 = .ok (.istore_n 2, 1) := by decide +kernel
theorem d_M_claim_31 : decode m_M_claim.2.1 31 = .ok (.iconst 0, 1) := by decide +kernel
theorem d_M_claim_32 : decode m_M_claim.2.1 32 = .ok (.istore_n 3, 1) := by decide +kernel
theorem d_M_claim_33 : decode m_M_claim.2.1 33 = .ok (.iload_n 3, 1) := by decide +kernel
theorem d_M_claim_34 : decode m_M_claim.2.1 34 = .ok (.aload_n 0, 1) := by decide +kernel
theorem d_M_claim_35 : decode m_M_claim.2.1 35 = .ok (.getfield 81, 3) := by decide +kernel
theorem d_M_claim_38 : decode m_M_claim.2.1 38 = .ok (.if_icmp .ge (44), 3) := by decide +kernel
theorem d_M_claim_82 : decode m_M_claim.2.1 82 = .ok (.iload_n 2, 1) := by decide +kernel
theorem d_M_claim_83 : decode m_M_claim.2.1 83 = .ok (.aload_n 0, 1) := by decide +kernel
theorem d_M_claim_84 : decode m_M_claim.2.1 84 = .ok (.getfield 280, 3) := by decide +kernel
theorem d_M_claim_87 : decode m_M_claim.2.1 87 = .ok (.iconst (-1), 1) := by decide +kernel
theorem d_M_claim_88 : decode m_M_claim.2.1 88 = .ok (.ixor, 1) := by decide +kernel
theorem d_M_claim_89 : decode m_M_claim.2.1 89 = .ok (.iand, 1) := by decide +kernel
theorem d_M_claim_90 : decode m_M_claim.2.1 90 = .ok (.istore_n 2, 1) := by decide +kernel
theorem d_M_claim_91 : decode m_M_claim.2.1 91 = .ok (.aload_n 0, 1) := by decide +kernel
theorem d_M_claim_92 : decode m_M_claim.2.1 92 = .ok (.dup, 1) := by decide +kernel
theorem d_M_claim_93 : decode m_M_claim.2.1 93 = .ok (.getfield 277, 3) := by decide +kernel
theorem d_M_claim_96 : decode m_M_claim.2.1 96 = .ok (.iconst 1, 1) := by decide +kernel
theorem d_M_claim_97 : decode m_M_claim.2.1 97 = .ok (.iload_n 1, 1) := by decide +kernel
theorem d_M_claim_98 : decode m_M_claim.2.1 98 = .ok (.ishl, 1) := by decide +kernel
theorem d_M_claim_99 : decode m_M_claim.2.1 99 = .ok (.ior, 1) := by decide +kernel
theorem d_M_claim_100 : decode m_M_claim.2.1 100 = .ok (.putfield 277, 3) := by decide +kernel
theorem d_M_claim_103 : decode m_M_claim.2.1 103 = .ok (.aload_n 0, 1) := by decide +kernel
theorem d_M_claim_104 : decode m_M_claim.2.1 104 = .ok (.dup, 1) := by decide +kernel
theorem d_M_claim_105 : decode m_M_claim.2.1 105 = .ok (.getfield 280, 3) := by decide +kernel
theorem d_M_claim_108 : decode m_M_claim.2.1 108 = .ok (.iload_n 2, 1) := by decide +kernel
theorem d_M_claim_109 : decode m_M_claim.2.1 109 = .ok (.ior, 1) := by decide +kernel
theorem d_M_claim_110 : decode m_M_claim.2.1 110 = .ok (.putfield 280, 3) := by decide +kernel
theorem d_M_claim_113 : decode m_M_claim.2.1 113 = .ok (.aload_n 0, 1) := by decide +kernel
theorem d_M_claim_114 : decode m_M_claim.2.1 114 = .ok (.getfield 43, 3) := by decide +kernel
theorem d_M_claim_117 : decode m_M_claim.2.1 117 = .ok (.iconst 0, 1) := by decide +kernel
theorem d_M_claim_118 : decode m_M_claim.2.1 118 = .ok (.dup2, 1) := by decide +kernel
theorem d_M_claim_119 : decode m_M_claim.2.1 119 = .ok (.iaload, 1) := by decide +kernel
theorem d_M_claim_120 : decode m_M_claim.2.1 120 = .ok (.iconst 1, 1) := by decide +kernel
theorem d_M_claim_121 : decode m_M_claim.2.1 121 = .ok (.iadd, 1) := by decide +kernel
theorem d_M_claim_122 : decode m_M_claim.2.1 122 = .ok (.iastore, 1) := by decide +kernel
theorem d_M_claim_123 : decode m_M_claim.2.1 123 = .ok (.aload_n 0, 1) := by decide +kernel
theorem d_M_claim_124 : decode m_M_claim.2.1 124 = .ok (.getfield 43, 3) := by decide +kernel
theorem d_M_claim_127 : decode m_M_claim.2.1 127 = .ok (.iconst 1, 1) := by decide +kernel
theorem d_M_claim_128 : decode m_M_claim.2.1 128 = .ok (.dup2, 1) := by decide +kernel
theorem d_M_claim_129 : decode m_M_claim.2.1 129 = .ok (.iaload, 1) := by decide +kernel
theorem d_M_claim_130 : decode m_M_claim.2.1 130 = .ok (.iload_n 2, 1) := by decide +kernel
theorem d_M_claim_131 : decode m_M_claim.2.1 131 = .ok (.invokestatic 228, 3) := by decide +kernel
theorem d_M_claim_134 : decode m_M_claim.2.1 134 = .ok (.iadd, 1) := by decide +kernel
theorem d_M_claim_135 : decode m_M_claim.2.1 135 = .ok (.iastore, 1) := by decide +kernel
theorem d_M_claim_136 : decode m_M_claim.2.1 136 = .ok (.iload_n 2, 1) := by decide +kernel
theorem d_M_claim_137 : decode m_M_claim.2.1 137 = .ok (.ireturn, 1) := by decide +kernel
theorem d_M_claim_41 : decode m_M_claim.2.1 41 = .ok (.iload_n 2, 1) := by decide +kernel
theorem d_M_claim_42 : decode m_M_claim.2.1 42 = .ok (.aload_n 0, 1) := by decide +kernel
theorem d_M_claim_43 : decode m_M_claim.2.1 43 = .ok (.getfield 277, 3) := by decide +kernel
theorem d_M_claim_46 : decode m_M_claim.2.1 46 = .ok (.iload_n 3, 1) := by decide +kernel
theorem d_M_claim_47 : decode m_M_claim.2.1 47 = .ok (.invokestatic 199, 3) := by decide +kernel
theorem d_M_claim_50 : decode m_M_claim.2.1 50 = .ok (.ifCond .eq (23), 3) := by decide +kernel
theorem d_M_claim_73 : decode m_M_claim.2.1 73 = .ok (.iconst 0, 1) := by decide +kernel
theorem d_M_claim_74 : decode m_M_claim.2.1 74 = .ok (.ior, 1) := by decide +kernel
theorem d_M_claim_75 : decode m_M_claim.2.1 75 = .ok (.istore_n 2, 1) := by decide +kernel
theorem d_M_claim_76 : decode m_M_claim.2.1 76 = .ok (.iinc 3 (1), 3) := by decide +kernel
theorem d_M_claim_79 : decode m_M_claim.2.1 79 = .ok (.goto (-46), 3) := by decide +kernel
theorem d_M_claim_53 : decode m_M_claim.2.1 53 = .ok (.aload_n 0, 1) := by decide +kernel
theorem d_M_claim_54 : decode m_M_claim.2.1 54 = .ok (.iload_n 1, 1) := by decide +kernel
theorem d_M_claim_55 : decode m_M_claim.2.1 55 = .ok (.iload_n 3, 1) := by decide +kernel
theorem d_M_claim_56 : decode m_M_claim.2.1 56 = .ok (.invokevirtual 202, 3) := by decide +kernel
theorem d_M_claim_59 : decode m_M_claim.2.1 59 = .ok (.ifCond .eq (14), 3) := by decide +kernel
theorem d_M_claim_62 : decode m_M_claim.2.1 62 = .ok (.iconst 1, 1) := by decide +kernel
theorem d_M_claim_63 : decode m_M_claim.2.1 63 = .ok (.aload_n 0, 1) := by decide +kernel
theorem d_M_claim_64 : decode m_M_claim.2.1 64 = .ok (.iload_n 1, 1) := by decide +kernel
theorem d_M_claim_65 : decode m_M_claim.2.1 65 = .ok (.iload_n 3, 1) := by decide +kernel
theorem d_M_claim_66 : decode m_M_claim.2.1 66 = .ok (.invokevirtual 205, 3) := by decide +kernel
theorem d_M_claim_69 : decode m_M_claim.2.1 69 = .ok (.ishl, 1) := by decide +kernel
theorem d_M_claim_70 : decode m_M_claim.2.1 70 = .ok (.goto (4), 3) := by decide +kernel
theorem d_M_claim_22 : decode m_M_claim.2.1 22 = .ok (.bipush (-5), 2) := by decide +kernel
theorem d_M_claim_24 : decode m_M_claim.2.1 24 = .ok (.ireturn, 1) := by decide +kernel
theorem d_M_ends_0 : decode m_M_ends.2.1 0 = .ok (.aload_n 0, 1) := by decide +kernel
theorem d_M_ends_1 : decode m_M_ends.2.1 1 = .ok (.getfield 9, 3) := by decide +kernel
theorem d_M_ends_4 : decode m_M_ends.2.1 4 = .ok (.bipush (42), 2) := by decide +kernel
theorem d_M_ends_6 : decode m_M_ends.2.1 6 = .ok (.aload_n 0, 1) := by decide +kernel
theorem d_M_ends_7 : decode m_M_ends.2.1 7 = .ok (.getfield 9, 3) := by decide +kernel
theorem d_M_ends_10 : decode m_M_ends.2.1 10 = .ok (.bipush (42), 2) := by decide +kernel
theorem d_M_ends_12 : decode m_M_ends.2.1 12 = .ok (.iaload, 1) := by decide +kernel
theorem d_M_ends_13 : decode m_M_ends.2.1 13 = .ok (.iconst 1, 1) := by decide +kernel
theorem d_M_ends_14 : decode m_M_ends.2.1 14 = .ok (.iadd, 1) := by decide +kernel
theorem d_M_ends_15 : decode m_M_ends.2.1 15 = .ok (.invokestatic 255, 3) := by decide +kernel
theorem d_M_ends_18 : decode m_M_ends.2.1 18 = .ok (.iastore, 1) := by decide +kernel
theorem d_M_ends_19 : decode m_M_ends.2.1 19 = .ok (.aload_n 0, 1) := by decide +kernel
theorem d_M_ends_20 : decode m_M_ends.2.1 20 = .ok (.iconst 0, 1) := by decide +kernel
theorem d_M_ends_21 : decode m_M_ends.2.1 21 = .ok (.putfield 277, 3) := by decide +kernel
theorem d_M_ends_24 : decode m_M_ends.2.1 24 = .ok (.aload_n 0, 1) := by decide +kernel
theorem d_M_ends_25 : decode m_M_ends.2.1 25 = .ok (.iconst 0, 1) := by decide +kernel
theorem d_M_ends_26 : decode m_M_ends.2.1 26 = .ok (.putfield 280, 3) := by decide +kernel
theorem d_M_ends_29 : decode m_M_ends.2.1 29 = .ok (.aload_n 0, 1) := by decide +kernel
theorem d_M_ends_30 : decode m_M_ends.2.1 30 = .ok (.getfield 43, 3) := by decide +kernel
theorem d_M_ends_33 : decode m_M_ends.2.1 33 = .ok (.iconst 4, 1) := by decide +kernel
theorem d_M_ends_34 : decode m_M_ends.2.1 34 = .ok (.dup2, 1) := by decide +kernel
theorem d_M_ends_35 : decode m_M_ends.2.1 35 = .ok (.iaload, 1) := by decide +kernel
theorem d_M_ends_36 : decode m_M_ends.2.1 36 = .ok (.iconst 1, 1) := by decide +kernel
theorem d_M_ends_37 : decode m_M_ends.2.1 37 = .ok (.iadd, 1) := by decide +kernel
theorem d_M_ends_38 : decode m_M_ends.2.1 38 = .ok (.iastore, 1) := by decide +kernel
theorem d_M_ends_39 : decode m_M_ends.2.1 39 = .ok (.aload_n 0, 1) := by decide +kernel
theorem d_M_ends_40 : decode m_M_ends.2.1 40 = .ok (.getfield 9, 3) := by decide +kernel
theorem d_M_ends_43 : decode m_M_ends.2.1 43 = .ok (.bipush (42), 2) := by decide +kernel
theorem d_M_ends_45 : decode m_M_ends.2.1 45 = .ok (.iaload, 1) := by decide +kernel
theorem d_M_ends_46 : decode m_M_ends.2.1 46 = .ok (.ireturn, 1) := by decide +kernel
theorem d_M_marry_0 : decode m_M_marry.2.1 0 = .ok (.iload_n 1, 1) := by decide +kernel
theorem d_M_marry_1 : decode m_M_marry.2.1 1 = .ok (.ifCond .lt (32), 3) := by decide +kernel
theorem d_M_marry_33 : decode m_M_marry.2.1 33 = .ok (.iconst (-1), 1) := by decide +kernel
theorem d_M_marry_34 : decode m_M_marry.2.1 34 = .ok (.ireturn, 1) := by decide +kernel
theorem d_M_marry_4 : decode m_M_marry.2.1 4 = .ok (.iload_n 1, 1) := by decide +kernel
theorem d_M_marry_5 : decode m_M_marry.2.1 5 = .ok (.bipush (10), 2) := by decide +kernel
theorem d_M_marry_7 : decode m_M_marry.2.1 7 = .ok (.idiv, 1) := by decide +kernel
theorem d_M_marry_8 : decode m_M_marry.2.1 8 = .ok (.bipush (8), 2) := by decide +kernel
theorem d_M_marry_10 : decode m_M_marry.2.1 10 = .ok (.if_icmp .ge (23), 3) := by decide +kernel
theorem d_M_marry_13 : decode m_M_marry.2.1 13 = .ok (.iload_n 1, 1) := by decide +kernel
theorem d_M_marry_14 : decode m_M_marry.2.1 14 = .ok (.bipush (10), 2) := by decide +kernel
theorem d_M_marry_16 : decode m_M_marry.2.1 16 = .ok (.irem, 1) := by decide +kernel
theorem d_M_marry_17 : decode m_M_marry.2.1 17 = .ok (.bipush (8), 2) := by decide +kernel
theorem d_M_marry_19 : decode m_M_marry.2.1 19 = .ok (.if_icmp .ge (14), 3) := by decide +kernel
theorem d_M_marry_22 : decode m_M_marry.2.1 22 = .ok (.iload_n 1, 1) := by decide +kernel
theorem d_M_marry_23 : decode m_M_marry.2.1 23 = .ok (.bipush (10), 2) := by decide +kernel
theorem d_M_marry_25 : decode m_M_marry.2.1 25 = .ok (.idiv, 1) := by decide +kernel
theorem d_M_marry_26 : decode m_M_marry.2.1 26 = .ok (.iload_n 1, 1) := by decide +kernel
theorem d_M_marry_27 : decode m_M_marry.2.1 27 = .ok (.bipush (10), 2) := by decide +kernel
theorem d_M_marry_29 : decode m_M_marry.2.1 29 = .ok (.irem, 1) := by decide +kernel
theorem d_M_marry_30 : decode m_M_marry.2.1 30 = .ok (.if_icmp .ne (5), 3) := by decide +kernel
theorem d_M_marry_35 : decode m_M_marry.2.1 35 = .ok (.iload_n 1, 1) := by decide +kernel
theorem d_M_marry_36 : decode m_M_marry.2.1 36 = .ok (.bipush (10), 2) := by decide +kernel
theorem d_M_marry_38 : decode m_M_marry.2.1 38 = .ok (.idiv, 1) := by decide +kernel
theorem d_M_marry_39 : decode m_M_marry.2.1 39 = .ok (.iload_n 1, 1) := by decide +kernel
theorem d_M_marry_40 : decode m_M_marry.2.1 40 = .ok (.bipush (10), 2) := by decide +kernel
theorem d_M_marry_42 : decode m_M_marry.2.1 42 = .ok (.irem, 1) := by decide +kernel
theorem d_M_marry_43 : decode m_M_marry.2.1 43 = .ok (.if_icmp .ge (10), 3) := by decide +kernel
theorem d_M_marry_53 : decode m_M_marry.2.1 53 = .ok (.iload_n 1, 1) := by decide +kernel
theorem d_M_marry_54 : decode m_M_marry.2.1 54 = .ok (.bipush (10), 2) := by decide +kernel
theorem d_M_marry_56 : decode m_M_marry.2.1 56 = .ok (.irem, 1) := by decide +kernel
theorem d_M_marry_57 : decode m_M_marry.2.1 57 = .ok (.istore_n 2, 1) := by decide +kernel
theorem d_M_marry_58 : decode m_M_marry.2.1 58 = .ok (.iload_n 1, 1) := by decide +kernel
theorem d_M_marry_59 : decode m_M_marry.2.1 59 = .ok (.bipush (10), 2) := by decide +kernel
theorem d_M_marry_61 : decode m_M_marry.2.1 61 = .ok (.idiv, 1) := by decide +kernel
theorem d_M_marry_62 : decode m_M_marry.2.1 62 = .ok (.iload_n 1, 1) := by decide +kernel
theorem d_M_marry_63 : decode m_M_marry.2.1 63 = .ok (.bipush (10), 2) := by decide +kernel
theorem d_M_marry_65 : decode m_M_marry.2.1 65 = .ok (.irem, 1) := by decide +kernel
theorem d_M_marry_66 : decode m_M_marry.2.1 66 = .ok (.iadd, 1) := by decide +kernel
theorem d_M_marry_67 : decode m_M_marry.2.1 67 = .ok (.iload_n 2, 1) := by decide +kernel
theorem d_M_marry_68 : decode m_M_marry.2.1 68 = .ok (.isub, 1) := by decide +kernel
theorem d_M_marry_69 : decode m_M_marry.2.1 69 = .ok (.istore_n 3, 1) := by decide +kernel
theorem d_M_marry_70 : decode m_M_marry.2.1 70 = .ok (.iconst 0, 1) := by decide +kernel
theorem d_M_marry_71 : decode m_M_marry.2.1 71 = .ok (.istore 4, 2) := by decide +kernel
theorem d_M_marry_73 : decode m_M_marry.2.1 73 = .ok (.iconst 0, 1) := by decide +kernel
theorem d_M_marry_74 : decode m_M_marry.2.1 74 = .ok (.istore 5, 2) := by decide +kernel
theorem d_M_marry_76 : decode m_M_marry.2.1 76 = .ok (.iload 5, 2) := by decide +kernel
theorem d_M_marry_78 : decode m_M_marry.2.1 78 = .ok (.aload_n 0, 1) := by decide +kernel
theorem d_M_marry_79 : decode m_M_marry.2.1 79 = .ok (.getfield 81, 3) := by decide +kernel
theorem d_M_marry_82 : decode m_M_marry.2.1 82 = .ok (.if_icmp .ge (59), 3) := by decide +kernel
theorem d_M_marry_141 : decode m_M_marry.2.1 141 = .ok (.aload_n 0, 1) := by decide +kernel
theorem d_M_marry_142 : decode m_M_marry.2.1 142 = .ok (.getfield 43, 3) := by decide +kernel
theorem d_M_marry_145 : decode m_M_marry.2.1 145 = .ok (.iconst 2, 1) := by decide +kernel
theorem d_M_marry_146 : decode m_M_marry.2.1 146 = .ok (.dup2, 1) := by decide +kernel
theorem d_M_marry_147 : decode m_M_marry.2.1 147 = .ok (.iaload, 1) := by decide +kernel
theorem d_M_marry_148 : decode m_M_marry.2.1 148 = .ok (.iconst 1, 1) := by decide +kernel
theorem d_M_marry_149 : decode m_M_marry.2.1 149 = .ok (.iadd, 1) := by decide +kernel
theorem d_M_marry_150 : decode m_M_marry.2.1 150 = .ok (.iastore, 1) := by decide +kernel
theorem d_M_marry_151 : decode m_M_marry.2.1 151 = .ok (.iload 4, 2) := by decide +kernel
theorem d_M_marry_153 : decode m_M_marry.2.1 153 = .ok (.ireturn, 1) := by decide +kernel
theorem d_M_marry_85 : decode m_M_marry.2.1 85 = .ok (.aload_n 0, 1) := by decide +kernel
theorem d_M_marry_86 : decode m_M_marry.2.1 86 = .ok (.getfield 9, 3) := by decide +kernel
theorem d_M_marry_89 : decode m_M_marry.2.1 89 = .ok (.iload 5, 2) := by decide +kernel
theorem d_M_marry_91 : decode m_M_marry.2.1 91 = .ok (.aload_n 0, 1) := by decide +kernel
theorem d_M_marry_92 : decode m_M_marry.2.1 92 = .ok (.getfield 9, 3) := by decide +kernel
theorem d_M_marry_95 : decode m_M_marry.2.1 95 = .ok (.iload 5, 2) := by decide +kernel
theorem d_M_marry_97 : decode m_M_marry.2.1 97 = .ok (.iaload, 1) := by decide +kernel
theorem d_M_marry_98 : decode m_M_marry.2.1 98 = .ok (.iload_n 3, 1) := by decide +kernel
theorem d_M_marry_99 : decode m_M_marry.2.1 99 = .ok (.if_icmp .ne (7), 3) := by decide +kernel
theorem d_M_marry_102 : decode m_M_marry.2.1 102 = .ok (.iload_n 2, 1) := by decide +kernel
theorem d_M_marry_103 : decode m_M_marry.2.1 103 = .ok (.goto (10), 3) := by decide +kernel
theorem d_M_marry_113 : decode m_M_marry.2.1 113 = .ok (.iastore, 1) := by decide +kernel
theorem d_M_marry_114 : decode m_M_marry.2.1 114 = .ok (.iload 4, 2) := by decide +kernel
theorem d_M_marry_116 : decode m_M_marry.2.1 116 = .ok (.aload_n 0, 1) := by decide +kernel
theorem d_M_marry_117 : decode m_M_marry.2.1 117 = .ok (.getfield 9, 3) := by decide +kernel
theorem d_M_marry_120 : decode m_M_marry.2.1 120 = .ok (.iload 5, 2) := by decide +kernel
theorem d_M_marry_122 : decode m_M_marry.2.1 122 = .ok (.iaload, 1) := by decide +kernel
theorem d_M_marry_123 : decode m_M_marry.2.1 123 = .ok (.iload_n 2, 1) := by decide +kernel
theorem d_M_marry_124 : decode m_M_marry.2.1 124 = .ok (.if_icmp .ne (7), 3) := by decide +kernel
theorem d_M_marry_127 : decode m_M_marry.2.1 127 = .ok (.iconst 1, 1) := by decide +kernel
theorem d_M_marry_128 : decode m_M_marry.2.1 128 = .ok (.goto (4), 3) := by decide +kernel
theorem d_M_marry_132 : decode m_M_marry.2.1 132 = .ok (.iadd, 1) := by decide +kernel
theorem d_M_marry_133 : decode m_M_marry.2.1 133 = .ok (.istore 4, 2) := by decide +kernel
theorem d_M_marry_135 : decode m_M_marry.2.1 135 = .ok (.iinc 5 (1), 3) := by decide +kernel
theorem d_M_marry_138 : decode m_M_marry.2.1 138 = .ok (.goto (-62), 3) := by decide +kernel
theorem d_M_marry_131 : decode m_M_marry.2.1 131 = .ok (.iconst 0, 1) := by decide +kernel
theorem d_M_marry_106 : decode m_M_marry.2.1 106 = .ok (.aload_n 0, 1) := by decide +kernel
theorem d_M_marry_107 : decode m_M_marry.2.1 107 = .ok (.getfield 9, 3) := by decide +kernel
theorem d_M_marry_110 : decode m_M_marry.2.1 110 = .ok (.iload 5, 2) := by decide +kernel
theorem d_M_marry_112 : decode m_M_marry.2.1 112 = .ok (.iaload, 1) := by decide +kernel
theorem d_M_marry_46 : decode m_M_marry.2.1 46 = .ok (.iload_n 1, 1) := by decide +kernel
theorem d_M_marry_47 : decode m_M_marry.2.1 47 = .ok (.bipush (10), 2) := by decide +kernel
theorem d_M_marry_49 : decode m_M_marry.2.1 49 = .ok (.idiv, 1) := by decide +kernel
theorem d_M_marry_50 : decode m_M_marry.2.1 50 = .ok (.goto (7), 3) := by decide +kernel
theorem d_M_paid_0 : decode m_M_paid.2.1 0 = .ok (.aload_n 0, 1) := by decide +kernel
theorem d_M_paid_1 : decode m_M_paid.2.1 1 = .ok (.iload_n 1, 1) := by decide +kernel
theorem d_M_paid_2 : decode m_M_paid.2.1 2 = .ok (.i2l, 1) := by decide +kernel
theorem d_M_paid_3 : decode m_M_paid.2.1 3 = .ok (.invokevirtual 111, 3) := by decide +kernel
theorem d_M_paid_6 : decode m_M_paid.2.1 6 = .ok (.ifCond .eq (15), 3) := by decide +kernel
theorem d_M_paid_21 : decode m_M_paid.2.1 21 = .ok (.iconst (-1), 1) := by decide +kernel
theorem d_M_paid_22 : decode m_M_paid.2.1 22 = .ok (.ireturn, 1) := by decide +kernel
theorem d_M_paid_9 : decode m_M_paid.2.1 9 = .ok (.iload_n 2, 1) := by decide +kernel
theorem d_M_paid_10 : decode m_M_paid.2.1 10 = .ok (.i2l, 1) := by decide +kernel
theorem d_M_paid_11 : decode m_M_paid.2.1 11 = .ok (.lconst 0, 1) := by decide +kernel
theorem d_M_paid_12 : decode m_M_paid.2.1 12 = .ok (.ldc2_w 117, 3) := by decide +kernel
theorem d_M_paid_15 : decode m_M_paid.2.1 15 = .ok (.invokestatic 84, 3) := by decide +kernel
theorem d_M_paid_18 : decode m_M_paid.2.1 18 = .ok (.ifCond .ne (5), 3) := by decide +kernel
theorem d_M_paid_23 : decode m_M_paid.2.1 23 = .ok (.aload_n 0, 1) := by decide +kernel
theorem d_M_paid_24 : decode m_M_paid.2.1 24 = .ok (.getfield 9, 3) := by decide +kernel
theorem d_M_paid_27 : decode m_M_paid.2.1 27 = .ok (.bipush (30), 2) := by decide +kernel
theorem d_M_paid_29 : decode m_M_paid.2.1 29 = .ok (.iload_n 1, 1) := by decide +kernel
theorem d_M_paid_30 : decode m_M_paid.2.1 30 = .ok (.iadd, 1) := by decide +kernel
theorem d_M_paid_31 : decode m_M_paid.2.1 31 = .ok (.iload_n 2, 1) := by decide +kernel
theorem d_M_paid_32 : decode m_M_paid.2.1 32 = .ok (.bipush (6), 2) := by decide +kernel
theorem d_M_paid_34 : decode m_M_paid.2.1 34 = .ok (.if_icmp .ne (7), 3) := by decide +kernel
theorem d_M_paid_37 : decode m_M_paid.2.1 37 = .ok (.iconst (-1), 1) := by decide +kernel
theorem d_M_paid_38 : decode m_M_paid.2.1 38 = .ok (.goto (4), 3) := by decide +kernel
theorem d_M_paid_42 : decode m_M_paid.2.1 42 = .ok (.iastore, 1) := by decide +kernel
theorem d_M_paid_43 : decode m_M_paid.2.1 43 = .ok (.iload_n 2, 1) := by decide +kernel
theorem d_M_paid_44 : decode m_M_paid.2.1 44 = .ok (.bipush (6), 2) := by decide +kernel
theorem d_M_paid_46 : decode m_M_paid.2.1 46 = .ok (.if_icmp .ne (7), 3) := by decide +kernel
theorem d_M_paid_49 : decode m_M_paid.2.1 49 = .ok (.iconst 0, 1) := by decide +kernel
theorem d_M_paid_50 : decode m_M_paid.2.1 50 = .ok (.goto (12), 3) := by decide +kernel
theorem d_M_paid_62 : decode m_M_paid.2.1 62 = .ok (.istore_n 3, 1) := by decide +kernel
theorem d_M_paid_63 : decode m_M_paid.2.1 63 = .ok (.aload_n 0, 1) := by decide +kernel
theorem d_M_paid_64 : decode m_M_paid.2.1 64 = .ok (.getfield 43, 3) := by decide +kernel
theorem d_M_paid_67 : decode m_M_paid.2.1 67 = .ok (.iconst 3, 1) := by decide +kernel
theorem d_M_paid_68 : decode m_M_paid.2.1 68 = .ok (.dup2, 1) := by decide +kernel
theorem d_M_paid_69 : decode m_M_paid.2.1 69 = .ok (.iaload, 1) := by decide +kernel
theorem d_M_paid_70 : decode m_M_paid.2.1 70 = .ok (.iload_n 3, 1) := by decide +kernel
theorem d_M_paid_71 : decode m_M_paid.2.1 71 = .ok (.iadd, 1) := by decide +kernel
theorem d_M_paid_72 : decode m_M_paid.2.1 72 = .ok (.iastore, 1) := by decide +kernel
theorem d_M_paid_73 : decode m_M_paid.2.1 73 = .ok (.iload_n 3, 1) := by decide +kernel
theorem d_M_paid_74 : decode m_M_paid.2.1 74 = .ok (.ireturn, 1) := by decide +kernel
theorem d_M_paid_53 : decode m_M_paid.2.1 53 = .ok (.aload_n 0, 1) := by decide +kernel
theorem d_M_paid_54 : decode m_M_paid.2.1 54 = .ok (.getfield 9, 3) := by decide +kernel
theorem d_M_paid_57 : decode m_M_paid.2.1 57 = .ok (.bipush (20), 2) := by decide +kernel
theorem d_M_paid_59 : decode m_M_paid.2.1 59 = .ok (.iload_n 1, 1) := by decide +kernel
theorem d_M_paid_60 : decode m_M_paid.2.1 60 = .ok (.iadd, 1) := by decide +kernel
theorem d_M_paid_61 : decode m_M_paid.2.1 61 = .ok (.iaload, 1) := by decide +kernel
theorem d_M_paid_41 : decode m_M_paid.2.1 41 = .ok (.iload_n 2, 1) := by decide +kernel
theorem d_M_led_0 : decode m_M_led.2.1 0 = .ok (.iload_n 1, 1) := by decide +kernel
theorem d_M_led_1 : decode m_M_led.2.1 1 = .ok (.i2l, 1) := by decide +kernel
theorem d_M_led_2 : decode m_M_led.2.1 2 = .ok (.lconst 0, 1) := by decide +kernel
theorem d_M_led_3 : decode m_M_led.2.1 3 = .ok (.ldc2_w 115, 3) := by decide +kernel
theorem d_M_led_6 : decode m_M_led.2.1 6 = .ok (.invokestatic 84, 3) := by decide +kernel
theorem d_M_led_9 : decode m_M_led.2.1 9 = .ok (.ifCond .eq (12), 3) := by decide +kernel
theorem d_M_led_21 : decode m_M_led.2.1 21 = .ok (.iconst (-1), 1) := by decide +kernel
theorem d_M_led_22 : decode m_M_led.2.1 22 = .ok (.ireturn, 1) := by decide +kernel
theorem d_M_led_12 : decode m_M_led.2.1 12 = .ok (.aload_n 0, 1) := by decide +kernel
theorem d_M_led_13 : decode m_M_led.2.1 13 = .ok (.getfield 43, 3) := by decide +kernel
theorem d_M_led_16 : decode m_M_led.2.1 16 = .ok (.iload_n 1, 1) := by decide +kernel
theorem d_M_led_17 : decode m_M_led.2.1 17 = .ok (.iaload, 1) := by decide +kernel
theorem d_M_led_18 : decode m_M_led.2.1 18 = .ok (.goto (4), 3) := by decide +kernel
theorem d_M_image_0 : decode m_M_image.2.1 0 = .ok (.aload_n 0, 1) := by decide +kernel
theorem d_M_image_1 : decode m_M_image.2.1 1 = .ok (.iconst 1, 1) := by decide +kernel
theorem d_M_image_2 : decode m_M_image.2.1 2 = .ok (.putfield 283, 3) := by decide +kernel
theorem d_M_image_5 : decode m_M_image.2.1 5 = .ok (.aload_n 0, 1) := by decide +kernel
theorem d_M_image_6 : decode m_M_image.2.1 6 = .ok (.aload_n 0, 1) := by decide +kernel
theorem d_M_image_7 : decode m_M_image.2.1 7 = .ok (.getfield 81, 3) := by decide +kernel
theorem d_M_image_10 : decode m_M_image.2.1 10 = .ok (.putfield 287, 3) := by decide +kernel
theorem d_M_image_13 : decode m_M_image.2.1 13 = .ok (.aload_n 0, 1) := by decide +kernel
theorem d_M_image_14 : decode m_M_image.2.1 14 = .ok (.aload_n 0, 1) := by decide +kernel
theorem d_M_image_15 : decode m_M_image.2.1 15 = .ok (.getfield 277, 3) := by decide +kernel
theorem d_M_image_18 : decode m_M_image.2.1 18 = .ok (.putfield 290, 3) := by decide +kernel
theorem d_M_image_21 : decode m_M_image.2.1 21 = .ok (.aload_n 0, 1) := by decide +kernel
theorem d_M_image_22 : decode m_M_image.2.1 22 = .ok (.aload_n 0, 1) := by decide +kernel
theorem d_M_image_23 : decode m_M_image.2.1 23 = .ok (.getfield 280, 3) := by decide +kernel
theorem d_M_image_26 : decode m_M_image.2.1 26 = .ok (.putfield 293, 3) := by decide +kernel
theorem d_M_image_29 : decode m_M_image.2.1 29 = .ok (.iconst 0, 1) := by decide +kernel
theorem d_M_image_30 : decode m_M_image.2.1 30 = .ok (.istore_n 1, 1) := by decide +kernel
theorem d_M_image_31 : decode m_M_image.2.1 31 = .ok (.iload_n 1, 1) := by decide +kernel
theorem d_M_image_32 : decode m_M_image.2.1 32 = .ok (.bipush (42), 2) := by decide +kernel
theorem d_M_image_34 : decode m_M_image.2.1 34 = .ok (.if_icmp .gt (21), 3) := by decide +kernel
theorem d_M_image_55 : decode m_M_image.2.1 55 = .ok (.iconst 0, 1) := by decide +kernel
theorem d_M_image_56 : decode m_M_image.2.1 56 = .ok (.istore_n 1, 1) := by decide +kernel
theorem d_M_image_57 : decode m_M_image.2.1 57 = .ok (.iload_n 1, 1) := by decide +kernel
theorem d_M_image_58 : decode m_M_image.2.1 58 = .ok (.iconst 5, 1) := by decide +kernel
theorem d_M_image_59 : decode m_M_image.2.1 59 = .ok (.if_icmp .ge (21), 3) := by decide +kernel
theorem d_M_image_80 : decode m_M_image.2.1 80 = .ok (.aload_n 0, 1) := by decide +kernel
theorem d_M_image_81 : decode m_M_image.2.1 81 = .ok (.getfield 43, 3) := by decide +kernel
theorem d_M_image_84 : decode m_M_image.2.1 84 = .ok (.iconst 4, 1) := by decide +kernel
theorem d_M_image_85 : decode m_M_image.2.1 85 = .ok (.iaload, 1) := by decide +kernel
theorem d_M_image_86 : decode m_M_image.2.1 86 = .ok (.ireturn, 1) := by decide +kernel
theorem d_M_image_62 : decode m_M_image.2.1 62 = .ok (.aload_n 0, 1) := by decide +kernel
theorem d_M_image_63 : decode m_M_image.2.1 63 = .ok (.getfield 49, 3) := by decide +kernel
theorem d_M_image_66 : decode m_M_image.2.1 66 = .ok (.iload_n 1, 1) := by decide +kernel
theorem d_M_image_67 : decode m_M_image.2.1 67 = .ok (.aload_n 0, 1) := by decide +kernel
theorem d_M_image_68 : decode m_M_image.2.1 68 = .ok (.getfield 43, 3) := by decide +kernel
theorem d_M_image_71 : decode m_M_image.2.1 71 = .ok (.iload_n 1, 1) := by decide +kernel
theorem d_M_image_72 : decode m_M_image.2.1 72 = .ok (.iaload, 1) := by decide +kernel
theorem d_M_image_73 : decode m_M_image.2.1 73 = .ok (.iastore, 1) := by decide +kernel
theorem d_M_image_74 : decode m_M_image.2.1 74 = .ok (.iinc 1 (1), 3) := by decide +kernel
theorem d_M_image_77 : decode m_M_image.2.1 77 = .ok (.goto (-20), 3) := by decide +kernel
theorem d_M_image_37 : decode m_M_image.2.1 37 = .ok (.aload_n 0, 1) := by decide +kernel
theorem d_M_image_38 : decode m_M_image.2.1 38 = .ok (.getfield 46, 3) := by decide +kernel
theorem d_M_image_41 : decode m_M_image.2.1 41 = .ok (.iload_n 1, 1) := by decide +kernel
theorem d_M_image_42 : decode m_M_image.2.1 42 = .ok (.aload_n 0, 1) := by decide +kernel
theorem d_M_image_43 : decode m_M_image.2.1 43 = .ok (.getfield 9, 3) := by decide +kernel
theorem d_M_image_46 : decode m_M_image.2.1 46 = .ok (.iload_n 1, 1) := by decide +kernel
theorem d_M_image_47 : decode m_M_image.2.1 47 = .ok (.iaload, 1) := by decide +kernel
theorem d_M_image_48 : decode m_M_image.2.1 48 = .ok (.iastore, 1) := by decide +kernel
theorem d_M_image_49 : decode m_M_image.2.1 49 = .ok (.iinc 1 (1), 3) := by decide +kernel
theorem d_M_image_52 : decode m_M_image.2.1 52 = .ok (.goto (-21), 3) := by decide +kernel
theorem d_M_back_0 : decode m_M_back.2.1 0 = .ok (.aload_n 0, 1) := by decide +kernel
theorem d_M_back_1 : decode m_M_back.2.1 1 = .ok (.getfield 283, 3) := by decide +kernel
theorem d_M_back_4 : decode m_M_back.2.1 4 = .ok (.ifCond .ne (6), 3) := by decide +kernel
theorem d_M_back_7 : decode m_M_back.2.1 7 = .ok (.bipush (-5), 2) := by decide +kernel
theorem d_M_back_9 : decode m_M_back.2.1 9 = .ok (.ireturn, 1) := by decide +kernel
theorem d_M_back_10 : decode m_M_back.2.1 10 = .ok (.iconst 0, 1) := by decide +kernel
theorem d_M_back_11 : decode m_M_back.2.1 11 = .ok (.istore_n 1, 1) := by decide +kernel
theorem d_M_back_12 : decode m_M_back.2.1 12 = .ok (.iload_n 1, 1) := by decide +kernel
theorem d_M_back_13 : decode m_M_back.2.1 13 = .ok (.aload_n 0, 1) := by decide +kernel
theorem d_M_back_14 : decode m_M_back.2.1 14 = .ok (.getfield 287, 3) := by decide +kernel
theorem d_M_back_17 : decode m_M_back.2.1 17 = .ok (.if_icmp .ge (39), 3) := by decide +kernel
theorem d_M_back_56 : decode m_M_back.2.1 56 = .ok (.aload_n 0, 1) := by decide +kernel
theorem d_M_back_57 : decode m_M_back.2.1 57 = .ok (.getfield 9, 3) := by decide +kernel
theorem d_M_back_60 : decode m_M_back.2.1 60 = .ok (.bipush (42), 2) := by decide +kernel
theorem d_M_back_62 : decode m_M_back.2.1 62 = .ok (.aload_n 0, 1) := by decide +kernel
theorem d_M_back_63 : decode m_M_back.2.1 63 = .ok (.getfield 46, 3) := by decide +kernel
theorem d_M_back_66 : decode m_M_back.2.1 66 = .ok (.bipush (42), 2) := by decide +kernel
theorem d_M_back_68 : decode m_M_back.2.1 68 = .ok (.iaload, 1) := by decide +kernel
theorem d_M_back_69 : decode m_M_back.2.1 69 = .ok (.iastore, 1) := by decide +kernel
theorem d_M_back_70 : decode m_M_back.2.1 70 = .ok (.aload_n 0, 1) := by decide +kernel
theorem d_M_back_71 : decode m_M_back.2.1 71 = .ok (.aload_n 0, 1) := by decide +kernel
theorem d_M_back_72 : decode m_M_back.2.1 72 = .ok (.getfield 290, 3) := by decide +kernel
theorem d_M_back_75 : decode m_M_back.2.1 75 = .ok (.putfield 277, 3) := by decide +kernel
theorem d_M_back_78 : decode m_M_back.2.1 78 = .ok (.aload_n 0, 1) := by decide +kernel
theorem d_M_back_79 : decode m_M_back.2.1 79 = .ok (.aload_n 0, 1) := by decide +kernel
theorem d_M_back_80 : decode m_M_back.2.1 80 = .ok (.getfield 293, 3) := by decide +kernel
theorem d_M_back_83 : decode m_M_back.2.1 83 = .ok (.putfield 280, 3) := by decide +kernel
theorem d_M_back_86 : decode m_M_back.2.1 86 = .ok (.iconst 0, 1) := by decide +kernel
theorem d_M_back_87 : decode m_M_back.2.1 87 = .ok (.istore_n 1, 1) := by decide +kernel
theorem d_M_back_88 : decode m_M_back.2.1 88 = .ok (.iload_n 1, 1) := by decide +kernel
theorem d_M_back_89 : decode m_M_back.2.1 89 = .ok (.iconst 5, 1) := by decide +kernel
theorem d_M_back_90 : decode m_M_back.2.1 90 = .ok (.if_icmp .ge (21), 3) := by decide +kernel
theorem d_M_back_111 : decode m_M_back.2.1 111 = .ok (.aload_n 0, 1) := by decide +kernel
theorem d_M_back_112 : decode m_M_back.2.1 112 = .ok (.getfield 43, 3) := by decide +kernel
theorem d_M_back_115 : decode m_M_back.2.1 115 = .ok (.iconst 4, 1) := by decide +kernel
theorem d_M_back_116 : decode m_M_back.2.1 116 = .ok (.iaload, 1) := by decide +kernel
theorem d_M_back_117 : decode m_M_back.2.1 117 = .ok (.ireturn, 1) := by decide +kernel
theorem d_M_back_93 : decode m_M_back.2.1 93 = .ok (.aload_n 0, 1) := by decide +kernel
theorem d_M_back_94 : decode m_M_back.2.1 94 = .ok (.getfield 43, 3) := by decide +kernel
theorem d_M_back_97 : decode m_M_back.2.1 97 = .ok (.iload_n 1, 1) := by decide +kernel
theorem d_M_back_98 : decode m_M_back.2.1 98 = .ok (.aload_n 0, 1) := by decide +kernel
theorem d_M_back_99 : decode m_M_back.2.1 99 = .ok (.getfield 49, 3) := by decide +kernel
theorem d_M_back_102 : decode m_M_back.2.1 102 = .ok (.iload_n 1, 1) := by decide +kernel
theorem d_M_back_103 : decode m_M_back.2.1 103 = .ok (.iaload, 1) := by decide +kernel
theorem d_M_back_104 : decode m_M_back.2.1 104 = .ok (.iastore, 1) := by decide +kernel
theorem d_M_back_105 : decode m_M_back.2.1 105 = .ok (.iinc 1 (1), 3) := by decide +kernel
theorem d_M_back_108 : decode m_M_back.2.1 108 = .ok (.goto (-20), 3) := by decide +kernel
theorem d_M_back_20 : decode m_M_back.2.1 20 = .ok (.aload_n 0, 1) := by decide +kernel
theorem d_M_back_21 : decode m_M_back.2.1 21 = .ok (.getfield 9, 3) := by decide +kernel
theorem d_M_back_24 : decode m_M_back.2.1 24 = .ok (.iload_n 1, 1) := by decide +kernel
theorem d_M_back_25 : decode m_M_back.2.1 25 = .ok (.aload_n 0, 1) := by decide +kernel
theorem d_M_back_26 : decode m_M_back.2.1 26 = .ok (.getfield 46, 3) := by decide +kernel
theorem d_M_back_29 : decode m_M_back.2.1 29 = .ok (.iload_n 1, 1) := by decide +kernel
theorem d_M_back_30 : decode m_M_back.2.1 30 = .ok (.iaload, 1) := by decide +kernel
theorem d_M_back_31 : decode m_M_back.2.1 31 = .ok (.iastore, 1) := by decide +kernel
theorem d_M_back_32 : decode m_M_back.2.1 32 = .ok (.aload_n 0, 1) := by decide +kernel
theorem d_M_back_33 : decode m_M_back.2.1 33 = .ok (.getfield 9, 3) := by decide +kernel
theorem d_M_back_36 : decode m_M_back.2.1 36 = .ok (.bipush (30), 2) := by decide +kernel
theorem d_M_back_38 : decode m_M_back.2.1 38 = .ok (.iload_n 1, 1) := by decide +kernel
theorem d_M_back_39 : decode m_M_back.2.1 39 = .ok (.iadd, 1) := by decide +kernel
theorem d_M_back_40 : decode m_M_back.2.1 40 = .ok (.aload_n 0, 1) := by decide +kernel
theorem d_M_back_41 : decode m_M_back.2.1 41 = .ok (.getfield 46, 3) := by decide +kernel
theorem d_M_back_44 : decode m_M_back.2.1 44 = .ok (.bipush (30), 2) := by decide +kernel
theorem d_M_back_46 : decode m_M_back.2.1 46 = .ok (.iload_n 1, 1) := by decide +kernel
theorem d_M_back_47 : decode m_M_back.2.1 47 = .ok (.iadd, 1) := by decide +kernel
theorem d_M_back_48 : decode m_M_back.2.1 48 = .ok (.iaload, 1) := by decide +kernel
theorem d_M_back_49 : decode m_M_back.2.1 49 = .ok (.iastore, 1) := by decide +kernel
theorem d_M_back_50 : decode m_M_back.2.1 50 = .ok (.iinc 1 (1), 3) := by decide +kernel
theorem d_M_back_53 : decode m_M_back.2.1 53 = .ok (.goto (-41), 3) := by decide +kernel
theorem d_M_isBody_0 : decode m_M_isBody.2.1 0 = .ok (.iload_n 1, 1) := by decide +kernel
theorem d_M_isBody_1 : decode m_M_isBody.2.1 1 = .ok (.i2l, 1) := by decide +kernel
theorem d_M_isBody_2 : decode m_M_isBody.2.1 2 = .ok (.lconst 0, 1) := by decide +kernel
theorem d_M_isBody_3 : decode m_M_isBody.2.1 3 = .ok (.aload_n 0, 1) := by decide +kernel
theorem d_M_isBody_4 : decode m_M_isBody.2.1 4 = .ok (.getfield 296, 3) := by decide +kernel
theorem d_M_isBody_7 : decode m_M_isBody.2.1 7 = .ok (.iconst 1, 1) := by decide +kernel
theorem d_M_isBody_8 : decode m_M_isBody.2.1 8 = .ok (.isub, 1) := by decide +kernel
theorem d_M_isBody_9 : decode m_M_isBody.2.1 9 = .ok (.i2l, 1) := by decide +kernel
theorem d_M_isBody_10 : decode m_M_isBody.2.1 10 = .ok (.invokestatic 84, 3) := by decide +kernel
theorem d_M_isBody_13 : decode m_M_isBody.2.1 13 = .ok (.ireturn, 1) := by decide +kernel
theorem d_M_kindOf_0 : decode m_M_kindOf.2.1 0 = .ok (.aload_n 0, 1) := by decide +kernel
theorem d_M_kindOf_1 : decode m_M_kindOf.2.1 1 = .ok (.getfield 52, 3) := by decide +kernel
theorem d_M_kindOf_4 : decode m_M_kindOf.2.1 4 = .ok (.iload_n 1, 1) := by decide +kernel
theorem d_M_kindOf_5 : decode m_M_kindOf.2.1 5 = .ok (.iaload, 1) := by decide +kernel
theorem d_M_kindOf_6 : decode m_M_kindOf.2.1 6 = .ok (.ireturn, 1) := by decide +kernel
theorem d_M_body_0 : decode m_M_body.2.1 0 = .ok (.iload_n 1, 1) := by decide +kernel
theorem d_M_body_1 : decode m_M_body.2.1 1 = .ok (.i2l, 1) := by decide +kernel
theorem d_M_body_2 : decode m_M_body.2.1 2 = .ok (.lconst 0, 1) := by decide +kernel
theorem d_M_body_3 : decode m_M_body.2.1 3 = .ok (.ldc2_w 90, 3) := by decide +kernel
theorem d_M_body_6 : decode m_M_body.2.1 6 = .ok (.invokestatic 84, 3) := by decide +kernel
theorem d_M_body_9 : decode m_M_body.2.1 9 = .ok (.ifCond .ne (5), 3) := by decide +kernel
theorem d_M_body_12 : decode m_M_body.2.1 12 = .ok (.iconst (-1), 1) := by decide +kernel
theorem d_M_body_13 : decode m_M_body.2.1 13 = .ok (.ireturn, 1) := by decide +kernel
theorem d_M_body_14 : decode m_M_body.2.1 14 = .ok (.aload_n 0, 1) := by decide +kernel
theorem d_M_body_15 : decode m_M_body.2.1 15 = .ok (.getfield 296, 3) := by decide +kernel
theorem d_M_body_18 : decode m_M_body.2.1 18 = .ok (.bipush (50), 2) := by decide +kernel
theorem d_M_body_20 : decode m_M_body.2.1 20 = .ok (.if_icmp .ne (6), 3) := by decide +kernel
theorem d_M_body_23 : decode m_M_body.2.1 23 = .ok (.bipush (-3), 2) := by decide +kernel
theorem d_M_body_25 : decode m_M_body.2.1 25 = .ok (.ireturn, 1) := by decide +kernel
theorem d_M_body_26 : decode m_M_body.2.1 26 = .ok (.aload_n 0, 1) := by decide +kernel
theorem d_M_body_27 : decode m_M_body.2.1 27 = .ok (.getfield 52, 3) := by decide +kernel
theorem d_M_body_30 : decode m_M_body.2.1 30 = .ok (.aload_n 0, 1) := by decide +kernel
theorem d_M_body_31 : decode m_M_body.2.1 31 = .ok (.getfield 296, 3) := by decide +kernel
theorem d_M_body_34 : decode m_M_body.2.1 34 = .ok (.iload_n 1, 1) := by decide +kernel
theorem d_M_body_35 : decode m_M_body.2.1 35 = .ok (.iastore, 1) := by decide +kernel
theorem d_M_body_36 : decode m_M_body.2.1 36 = .ok (.aload_n 0, 1) := by decide +kernel
theorem d_M_body_37 : decode m_M_body.2.1 37 = .ok (.dup, 1) := by decide +kernel
theorem d_M_body_38 : decode m_M_body.2.1 38 = .ok (.getfield 296, 3) := by decide +kernel
theorem d_M_body_41 : decode m_M_body.2.1 41 = .ok (.iconst 1, 1) := by decide +kernel
theorem d_M_body_42 : decode m_M_body.2.1 42 = .ok (.iadd, 1) := by decide +kernel
theorem d_M_body_43 : decode m_M_body.2.1 43 = .ok (.putfield 296, 3) := by decide +kernel
theorem d_M_body_46 : decode m_M_body.2.1 46 = .ok (.aload_n 0, 1) := by decide +kernel
theorem d_M_body_47 : decode m_M_body.2.1 47 = .ok (.getfield 296, 3) := by decide +kernel
theorem d_M_body_50 : decode m_M_body.2.1 50 = .ok (.iconst 1, 1) := by decide +kernel
theorem d_M_body_51 : decode m_M_body.2.1 51 = .ok (.isub, 1) := by decide +kernel
theorem d_M_body_52 : decode m_M_body.2.1 52 = .ok (.ireturn, 1) := by decide +kernel
theorem d_M_above_0 : decode m_M_above.2.1 0 = .ok (.iload_n 0, 1) := by decide +kernel
theorem d_M_above_1 : decode m_M_above.2.1 1 = .ok (.iconst 3, 1) := by decide +kernel
theorem d_M_above_2 : decode m_M_above.2.1 2 = .ok (.if_icmp .ne (7), 3) := by decide +kernel
theorem d_M_above_5 : decode m_M_above.2.1 5 = .ok (.iconst 2, 1) := by decide +kernel
theorem d_M_above_6 : decode m_M_above.2.1 6 = .ok (.goto (32), 3) := by decide +kernel
theorem d_M_above_38 : decode m_M_above.2.1 38 = .ok (.ireturn, 1) := by decide +kernel
theorem d_M_above_9 : decode m_M_above.2.1 9 = .ok (.iload_n 0, 1) := by decide +kernel
theorem d_M_above_10 : decode m_M_above.2.1 10 = .ok (.iconst 4, 1) := by decide +kernel
theorem d_M_above_11 : decode m_M_above.2.1 11 = .ok (.if_icmp .ne (7), 3) := by decide +kernel
theorem d_M_above_14 : decode m_M_above.2.1 14 = .ok (.iconst 1, 1) := by decide +kernel
theorem d_M_above_15 : decode m_M_above.2.1 15 = .ok (.goto (23), 3) := by decide +kernel
theorem d_M_above_18 : decode m_M_above.2.1 18 = .ok (.iload_n 0, 1) := by decide +kernel
theorem d_M_above_19 : decode m_M_above.2.1 19 = .ok (.iconst 5, 1) := by decide +kernel
theorem d_M_above_20 : decode m_M_above.2.1 20 = .ok (.if_icmp .ne (7), 3) := by decide +kernel
theorem d_M_above_23 : decode m_M_above.2.1 23 = .ok (.iconst 3, 1) := by decide +kernel
theorem d_M_above_24 : decode m_M_above.2.1 24 = .ok (.goto (14), 3) := by decide +kernel
theorem d_M_above_27 : decode m_M_above.2.1 27 = .ok (.iload_n 0, 1) := by decide +kernel
theorem d_M_above_28 : decode m_M_above.2.1 28 = .ok (.bipush (7), 2) := by decide +kernel
theorem d_M_above_30 : decode m_M_above.2.1 30 = .ok (.if_icmp .ne (7), 3) := by decide +kernel
theorem d_M_above_33 : decode m_M_above.2.1 33 = .ok (.iconst 4, 1) := by decide +kernel
theorem d_M_above_34 : decode m_M_above.2.1 34 = .ok (.goto (4), 3) := by decide +kernel
theorem d_M_above_37 : decode m_M_above.2.1 37 = .ok (.iconst 0, 1) := by decide +kernel
theorem d_M_runs_0 : decode m_M_runs.2.1 0 = .ok (.aload_n 0, 1) := by decide +kernel
theorem d_M_runs_1 : decode m_M_runs.2.1 1 = .ok (.getfield 299, 3) := by decide +kernel
theorem d_M_runs_4 : decode m_M_runs.2.1 4 = .ok (.bipush (24), 2) := by decide +kernel
theorem d_M_runs_6 : decode m_M_runs.2.1 6 = .ok (.if_icmp .ge (13), 3) := by decide +kernel
theorem d_M_runs_19 : decode m_M_runs.2.1 19 = .ok (.aload_n 0, 1) := by decide +kernel
theorem d_M_runs_20 : decode m_M_runs.2.1 20 = .ok (.dup, 1) := by decide +kernel
theorem d_M_runs_21 : decode m_M_runs.2.1 21 = .ok (.getfield 299, 3) := by decide +kernel
theorem d_M_runs_24 : decode m_M_runs.2.1 24 = .ok (.iconst 1, 1) := by decide +kernel
theorem d_M_runs_25 : decode m_M_runs.2.1 25 = .ok (.iadd, 1) := by decide +kernel
theorem d_M_runs_26 : decode m_M_runs.2.1 26 = .ok (.putfield 299, 3) := by decide +kernel
theorem d_M_runs_29 : decode m_M_runs.2.1 29 = .ok (.return_, 1) := by decide +kernel
theorem d_M_runs_9 : decode m_M_runs.2.1 9 = .ok (.aload_n 0, 1) := by decide +kernel
theorem d_M_runs_10 : decode m_M_runs.2.1 10 = .ok (.getfield 55, 3) := by decide +kernel
theorem d_M_runs_13 : decode m_M_runs.2.1 13 = .ok (.aload_n 0, 1) := by decide +kernel
theorem d_M_runs_14 : decode m_M_runs.2.1 14 = .ok (.getfield 299, 3) := by decide +kernel
theorem d_M_runs_17 : decode m_M_runs.2.1 17 = .ok (.iload_n 1, 1) := by decide +kernel
theorem d_M_runs_18 : decode m_M_runs.2.1 18 = .ok (.iastore, 1) := by decide +kernel
theorem d_M_fallsAs_0 : decode m_M_fallsAs.2.1 0 = .ok (.iload_n 1, 1) := by decide +kernel
theorem d_M_fallsAs_1 : decode m_M_fallsAs.2.1 1 = .ok (.iconst 1, 1) := by decide +kernel
theorem d_M_fallsAs_2 : decode m_M_fallsAs.2.1 2 = .ok (.if_icmp .eq (14), 3) := by decide +kernel
theorem d_M_fallsAs_16 : decode m_M_fallsAs.2.1 16 = .ok (.aload_n 0, 1) := by decide +kernel
theorem d_M_fallsAs_17 : decode m_M_fallsAs.2.1 17 = .ok (.bipush (20), 2) := by decide +kernel
theorem d_M_fallsAs_19 : decode m_M_fallsAs.2.1 19 = .ok (.invokevirtual 302, 3) := by decide +kernel
theorem d_M_fallsAs_22 : decode m_M_fallsAs.2.1 22 = .ok (.aload_n 0, 1) := by decide +kernel
theorem d_M_fallsAs_23 : decode m_M_fallsAs.2.1 23 = .ok (.iconst 0, 1) := by decide +kernel
theorem d_M_fallsAs_24 : decode m_M_fallsAs.2.1 24 = .ok (.iload_n 2, 1) := by decide +kernel
theorem d_M_fallsAs_25 : decode m_M_fallsAs.2.1 25 = .ok (.invokevirtual 306, 3) := by decide +kernel
theorem d_M_fallsAs_28 : decode m_M_fallsAs.2.1 28 = .ok (.iconst 3, 1) := by decide +kernel
theorem d_M_fallsAs_29 : decode m_M_fallsAs.2.1 29 = .ok (.iadd, 1) := by decide +kernel
theorem d_M_fallsAs_30 : decode m_M_fallsAs.2.1 30 = .ok (.ireturn, 1) := by decide +kernel
theorem d_M_fallsAs_5 : decode m_M_fallsAs.2.1 5 = .ok (.iload_n 1, 1) := by decide +kernel
theorem d_M_fallsAs_6 : decode m_M_fallsAs.2.1 6 = .ok (.iconst 4, 1) := by decide +kernel
theorem d_M_fallsAs_7 : decode m_M_fallsAs.2.1 7 = .ok (.if_icmp .eq (9), 3) := by decide +kernel
theorem d_M_fallsAs_10 : decode m_M_fallsAs.2.1 10 = .ok (.iload_n 1, 1) := by decide +kernel
theorem d_M_fallsAs_11 : decode m_M_fallsAs.2.1 11 = .ok (.bipush (7), 2) := by decide +kernel
theorem d_M_fallsAs_13 : decode m_M_fallsAs.2.1 13 = .ok (.if_icmp .ne (18), 3) := by decide +kernel
theorem d_M_fallsAs_31 : decode m_M_fallsAs.2.1 31 = .ok (.iload_n 1, 1) := by decide +kernel
theorem d_M_fallsAs_32 : decode m_M_fallsAs.2.1 32 = .ok (.bipush (6), 2) := by decide +kernel
theorem d_M_fallsAs_34 : decode m_M_fallsAs.2.1 34 = .ok (.if_icmp .ne (18), 3) := by decide +kernel
theorem d_M_fallsAs_37 : decode m_M_fallsAs.2.1 37 = .ok (.aload_n 0, 1) := by decide +kernel
theorem d_M_fallsAs_38 : decode m_M_fallsAs.2.1 38 = .ok (.bipush (70), 2) := by decide +kernel
theorem d_M_fallsAs_40 : decode m_M_fallsAs.2.1 40 = .ok (.invokevirtual 302, 3) := by decide +kernel
theorem d_M_fallsAs_43 : decode m_M_fallsAs.2.1 43 = .ok (.aload_n 0, 1) := by decide +kernel
theorem d_M_fallsAs_44 : decode m_M_fallsAs.2.1 44 = .ok (.iconst 0, 1) := by decide +kernel
theorem d_M_fallsAs_45 : decode m_M_fallsAs.2.1 45 = .ok (.iload_n 2, 1) := by decide +kernel
theorem d_M_fallsAs_46 : decode m_M_fallsAs.2.1 46 = .ok (.invokevirtual 306, 3) := by decide +kernel
theorem d_M_fallsAs_49 : decode m_M_fallsAs.2.1 49 = .ok (.iconst 2, 1) := by decide +kernel
theorem d_M_fallsAs_50 : decode m_M_fallsAs.2.1 50 = .ok (.imul, 1) := by decide +kernel
theorem d_M_fallsAs_51 : decode m_M_fallsAs.2.1 51 = .ok (.ireturn, 1) := by decide +kernel
theorem d_M_fallsAs_52 : decode m_M_fallsAs.2.1 52 = .ok (.aload_n 0, 1) := by decide +kernel
theorem d_M_fallsAs_53 : decode m_M_fallsAs.2.1 53 = .ok (.iconst 1, 1) := by decide +kernel
theorem d_M_fallsAs_54 : decode m_M_fallsAs.2.1 54 = .ok (.invokevirtual 302, 3) := by decide +kernel
theorem d_M_fallsAs_57 : decode m_M_fallsAs.2.1 57 = .ok (.iload_n 2, 1) := by decide +kernel
theorem d_M_fallsAs_58 : decode m_M_fallsAs.2.1 58 = .ok (.aload_n 0, 1) := by decide +kernel
theorem d_M_fallsAs_59 : decode m_M_fallsAs.2.1 59 = .ok (.getfield 309, 3) := by decide +kernel
theorem d_M_fallsAs_62 : decode m_M_fallsAs.2.1 62 = .ok (.iadd, 1) := by decide +kernel
theorem d_M_fallsAs_63 : decode m_M_fallsAs.2.1 63 = .ok (.ireturn, 1) := by decide +kernel
theorem d_M_deniesAs_0 : decode m_M_deniesAs.2.1 0 = .ok (.iload_n 1, 1) := by decide +kernel
theorem d_M_deniesAs_1 : decode m_M_deniesAs.2.1 1 = .ok (.iconst 3, 1) := by decide +kernel
theorem d_M_deniesAs_2 : decode m_M_deniesAs.2.1 2 = .ok (.if_icmp .eq (8), 3) := by decide +kernel
theorem d_M_deniesAs_10 : decode m_M_deniesAs.2.1 10 = .ok (.aload_n 0, 1) := by decide +kernel
theorem d_M_deniesAs_11 : decode m_M_deniesAs.2.1 11 = .ok (.bipush (40), 2) := by decide +kernel
theorem d_M_deniesAs_13 : decode m_M_deniesAs.2.1 13 = .ok (.invokevirtual 302, 3) := by decide +kernel
theorem d_M_deniesAs_16 : decode m_M_deniesAs.2.1 16 = .ok (.aload_n 0, 1) := by decide +kernel
theorem d_M_deniesAs_17 : decode m_M_deniesAs.2.1 17 = .ok (.iconst 2, 1) := by decide +kernel
theorem d_M_deniesAs_18 : decode m_M_deniesAs.2.1 18 = .ok (.iload_n 2, 1) := by decide +kernel
theorem d_M_deniesAs_19 : decode m_M_deniesAs.2.1 19 = .ok (.invokevirtual 318, 3) := by decide +kernel
theorem d_M_deniesAs_22 : decode m_M_deniesAs.2.1 22 = .ok (.iconst 3, 1) := by decide +kernel
theorem d_M_deniesAs_23 : decode m_M_deniesAs.2.1 23 = .ok (.imul, 1) := by decide +kernel
theorem d_M_deniesAs_24 : decode m_M_deniesAs.2.1 24 = .ok (.ireturn, 1) := by decide +kernel
theorem d_M_deniesAs_5 : decode m_M_deniesAs.2.1 5 = .ok (.iload_n 1, 1) := by decide +kernel
theorem d_M_deniesAs_6 : decode m_M_deniesAs.2.1 6 = .ok (.iconst 5, 1) := by decide +kernel
theorem d_M_deniesAs_7 : decode m_M_deniesAs.2.1 7 = .ok (.if_icmp .ne (18), 3) := by decide +kernel
theorem d_M_deniesAs_25 : decode m_M_deniesAs.2.1 25 = .ok (.iload_n 1, 1) := by decide +kernel
theorem d_M_deniesAs_26 : decode m_M_deniesAs.2.1 26 = .ok (.iconst 4, 1) := by decide +kernel
theorem d_M_deniesAs_27 : decode m_M_deniesAs.2.1 27 = .ok (.if_icmp .eq (9), 3) := by decide +kernel
theorem d_M_deniesAs_36 : decode m_M_deniesAs.2.1 36 = .ok (.aload_n 0, 1) := by decide +kernel
theorem d_M_deniesAs_37 : decode m_M_deniesAs.2.1 37 = .ok (.bipush (50), 2) := by decide +kernel
theorem d_M_deniesAs_39 : decode m_M_deniesAs.2.1 39 = .ok (.invokevirtual 302, 3) := by decide +kernel
theorem d_M_deniesAs_42 : decode m_M_deniesAs.2.1 42 = .ok (.aload_n 0, 1) := by decide +kernel
theorem d_M_deniesAs_43 : decode m_M_deniesAs.2.1 43 = .ok (.iconst 1, 1) := by decide +kernel
theorem d_M_deniesAs_44 : decode m_M_deniesAs.2.1 44 = .ok (.iload_n 2, 1) := by decide +kernel
theorem d_M_deniesAs_45 : decode m_M_deniesAs.2.1 45 = .ok (.invokevirtual 318, 3) := by decide +kernel
theorem d_M_deniesAs_48 : decode m_M_deniesAs.2.1 48 = .ok (.istore_n 3, 1) := by decide +kernel
theorem d_M_deniesAs_49 : decode m_M_deniesAs.2.1 49 = .ok (.iload_n 3, 1) := by decide +kernel
theorem d_M_deniesAs_50 : decode m_M_deniesAs.2.1 50 = .ok (.aload_n 0, 1) := by decide +kernel
theorem d_M_deniesAs_51 : decode m_M_deniesAs.2.1 51 = .ok (.aload_n 0, 1) := by decide +kernel
theorem d_M_deniesAs_52 : decode m_M_deniesAs.2.1 52 = .ok (.getfield 315, 3) := by decide +kernel
theorem d_M_deniesAs_55 : decode m_M_deniesAs.2.1 55 = .ok (.iconst 2, 1) := by decide +kernel
theorem d_M_deniesAs_56 : decode m_M_deniesAs.2.1 56 = .ok (.invokevirtual 306, 3) := by decide +kernel
theorem d_M_deniesAs_59 : decode m_M_deniesAs.2.1 59 = .ok (.isub, 1) := by decide +kernel
theorem d_M_deniesAs_60 : decode m_M_deniesAs.2.1 60 = .ok (.ireturn, 1) := by decide +kernel
theorem d_M_deniesAs_30 : decode m_M_deniesAs.2.1 30 = .ok (.iload_n 1, 1) := by decide +kernel
theorem d_M_deniesAs_31 : decode m_M_deniesAs.2.1 31 = .ok (.bipush (7), 2) := by decide +kernel
theorem d_M_deniesAs_33 : decode m_M_deniesAs.2.1 33 = .ok (.if_icmp .ne (28), 3) := by decide +kernel
theorem d_M_deniesAs_61 : decode m_M_deniesAs.2.1 61 = .ok (.aload_n 0, 1) := by decide +kernel
theorem d_M_deniesAs_62 : decode m_M_deniesAs.2.1 62 = .ok (.bipush (11), 2) := by decide +kernel
theorem d_M_deniesAs_64 : decode m_M_deniesAs.2.1 64 = .ok (.invokevirtual 302, 3) := by decide +kernel
theorem d_M_deniesAs_67 : decode m_M_deniesAs.2.1 67 = .ok (.iload_n 2, 1) := by decide +kernel
theorem d_M_deniesAs_68 : decode m_M_deniesAs.2.1 68 = .ok (.aload_n 0, 1) := by decide +kernel
theorem d_M_deniesAs_69 : decode m_M_deniesAs.2.1 69 = .ok (.getfield 309, 3) := by decide +kernel
theorem d_M_deniesAs_72 : decode m_M_deniesAs.2.1 72 = .ok (.ixor, 1) := by decide +kernel
theorem d_M_deniesAs_73 : decode m_M_deniesAs.2.1 73 = .ok (.ireturn, 1) := by decide +kernel
theorem d_M_saysAs_0 : decode m_M_saysAs.2.1 0 = .ok (.iload_n 1, 1) := by decide +kernel
theorem d_M_saysAs_1 : decode m_M_saysAs.2.1 1 = .ok (.iconst 3, 1) := by decide +kernel
theorem d_M_saysAs_2 : decode m_M_saysAs.2.1 2 = .ok (.if_icmp .eq (8), 3) := by decide +kernel
theorem d_M_saysAs_10 : decode m_M_saysAs.2.1 10 = .ok (.aload_n 0, 1) := by decide +kernel
theorem d_M_saysAs_11 : decode m_M_saysAs.2.1 11 = .ok (.bipush (41), 2) := by decide +kernel
theorem d_M_saysAs_13 : decode m_M_saysAs.2.1 13 = .ok (.invokevirtual 302, 3) := by decide +kernel
theorem d_M_saysAs_16 : decode m_M_saysAs.2.1 16 = .ok (.aload_n 0, 1) := by decide +kernel
theorem d_M_saysAs_17 : decode m_M_saysAs.2.1 17 = .ok (.iconst 2, 1) := by decide +kernel
theorem d_M_saysAs_18 : decode m_M_saysAs.2.1 18 = .ok (.iload_n 2, 1) := by decide +kernel
theorem d_M_saysAs_19 : decode m_M_saysAs.2.1 19 = .ok (.iconst 1, 1) := by decide +kernel
theorem d_M_saysAs_20 : decode m_M_saysAs.2.1 20 = .ok (.iadd, 1) := by decide +kernel
theorem d_M_saysAs_21 : decode m_M_saysAs.2.1 21 = .ok (.invokevirtual 312, 3) := by decide +kernel
theorem d_M_saysAs_24 : decode m_M_saysAs.2.1 24 = .ok (.ireturn, 1) := by decide +kernel
theorem d_M_saysAs_5 : decode m_M_saysAs.2.1 5 = .ok (.iload_n 1, 1) := by decide +kernel
theorem d_M_saysAs_6 : decode m_M_saysAs.2.1 6 = .ok (.iconst 5, 1) := by decide +kernel
theorem d_M_saysAs_7 : decode m_M_saysAs.2.1 7 = .ok (.if_icmp .ne (18), 3) := by decide +kernel
theorem d_M_saysAs_25 : decode m_M_saysAs.2.1 25 = .ok (.iload_n 1, 1) := by decide +kernel
theorem d_M_saysAs_26 : decode m_M_saysAs.2.1 26 = .ok (.iconst 2, 1) := by decide +kernel
theorem d_M_saysAs_27 : decode m_M_saysAs.2.1 27 = .ok (.if_icmp .ne (17), 3) := by decide +kernel
theorem d_M_saysAs_30 : decode m_M_saysAs.2.1 30 = .ok (.aload_n 0, 1) := by decide +kernel
theorem d_M_saysAs_31 : decode m_M_saysAs.2.1 31 = .ok (.bipush (30), 2) := by decide +kernel
theorem d_M_saysAs_33 : decode m_M_saysAs.2.1 33 = .ok (.invokevirtual 302, 3) := by decide +kernel
theorem d_M_saysAs_36 : decode m_M_saysAs.2.1 36 = .ok (.aload_n 0, 1) := by decide +kernel
theorem d_M_saysAs_37 : decode m_M_saysAs.2.1 37 = .ok (.iconst 0, 1) := by decide +kernel
theorem d_M_saysAs_38 : decode m_M_saysAs.2.1 38 = .ok (.iload_n 2, 1) := by decide +kernel
theorem d_M_saysAs_39 : decode m_M_saysAs.2.1 39 = .ok (.invokevirtual 312, 3) := by decide +kernel
theorem d_M_saysAs_42 : decode m_M_saysAs.2.1 42 = .ok (.ineg, 1) := by decide +kernel
theorem d_M_saysAs_43 : decode m_M_saysAs.2.1 43 = .ok (.ireturn, 1) := by decide +kernel
theorem d_M_saysAs_44 : decode m_M_saysAs.2.1 44 = .ok (.iload_n 1, 1) := by decide +kernel
theorem d_M_saysAs_45 : decode m_M_saysAs.2.1 45 = .ok (.bipush (7), 2) := by decide +kernel
theorem d_M_saysAs_47 : decode m_M_saysAs.2.1 47 = .ok (.if_icmp .ne (28), 3) := by decide +kernel
theorem d_M_saysAs_50 : decode m_M_saysAs.2.1 50 = .ok (.aload_n 0, 1) := by decide +kernel
theorem d_M_saysAs_51 : decode m_M_saysAs.2.1 51 = .ok (.bipush (80), 2) := by decide +kernel
theorem d_M_saysAs_53 : decode m_M_saysAs.2.1 53 = .ok (.invokevirtual 302, 3) := by decide +kernel
theorem d_M_saysAs_56 : decode m_M_saysAs.2.1 56 = .ok (.aload_n 0, 1) := by decide +kernel
theorem d_M_saysAs_57 : decode m_M_saysAs.2.1 57 = .ok (.iconst 4, 1) := by decide +kernel
theorem d_M_saysAs_58 : decode m_M_saysAs.2.1 58 = .ok (.iload_n 2, 1) := by decide +kernel
theorem d_M_saysAs_59 : decode m_M_saysAs.2.1 59 = .ok (.invokevirtual 312, 3) := by decide +kernel
theorem d_M_saysAs_62 : decode m_M_saysAs.2.1 62 = .ok (.istore_n 3, 1) := by decide +kernel
theorem d_M_saysAs_63 : decode m_M_saysAs.2.1 63 = .ok (.iload_n 3, 1) := by decide +kernel
theorem d_M_saysAs_64 : decode m_M_saysAs.2.1 64 = .ok (.aload_n 0, 1) := by decide +kernel
theorem d_M_saysAs_65 : decode m_M_saysAs.2.1 65 = .ok (.aload_n 0, 1) := by decide +kernel
theorem d_M_saysAs_66 : decode m_M_saysAs.2.1 66 = .ok (.getfield 315, 3) := by decide +kernel
theorem d_M_saysAs_69 : decode m_M_saysAs.2.1 69 = .ok (.iconst 2, 1) := by decide +kernel
theorem d_M_saysAs_70 : decode m_M_saysAs.2.1 70 = .ok (.invokevirtual 318, 3) := by decide +kernel
theorem d_M_saysAs_73 : decode m_M_saysAs.2.1 73 = .ok (.iadd, 1) := by decide +kernel
theorem d_M_saysAs_74 : decode m_M_saysAs.2.1 74 = .ok (.ireturn, 1) := by decide +kernel
theorem d_M_saysAs_75 : decode m_M_saysAs.2.1 75 = .ok (.aload_n 0, 1) := by decide +kernel
theorem d_M_saysAs_76 : decode m_M_saysAs.2.1 76 = .ok (.bipush (10), 2) := by decide +kernel
theorem d_M_saysAs_78 : decode m_M_saysAs.2.1 78 = .ok (.invokevirtual 302, 3) := by decide +kernel
theorem d_M_saysAs_81 : decode m_M_saysAs.2.1 81 = .ok (.aload_n 0, 1) := by decide +kernel
theorem d_M_saysAs_82 : decode m_M_saysAs.2.1 82 = .ok (.aload_n 0, 1) := by decide +kernel
theorem d_M_saysAs_83 : decode m_M_saysAs.2.1 83 = .ok (.getfield 315, 3) := by decide +kernel
theorem d_M_saysAs_86 : decode m_M_saysAs.2.1 86 = .ok (.iload_n 2, 1) := by decide +kernel
theorem d_M_saysAs_87 : decode m_M_saysAs.2.1 87 = .ok (.invokevirtual 306, 3) := by decide +kernel
theorem d_M_saysAs_90 : decode m_M_saysAs.2.1 90 = .ok (.iconst 2, 1) := by decide +kernel
theorem d_M_saysAs_91 : decode m_M_saysAs.2.1 91 = .ok (.imul, 1) := by decide +kernel
theorem d_M_saysAs_92 : decode m_M_saysAs.2.1 92 = .ok (.ireturn, 1) := by decide +kernel
theorem d_M_tellsAs_0 : decode m_M_tellsAs.2.1 0 = .ok (.iload_n 1, 1) := by decide +kernel
theorem d_M_tellsAs_1 : decode m_M_tellsAs.2.1 1 = .ok (.iconst 5, 1) := by decide +kernel
theorem d_M_tellsAs_2 : decode m_M_tellsAs.2.1 2 = .ok (.if_icmp .ne (18), 3) := by decide +kernel
theorem d_M_tellsAs_5 : decode m_M_tellsAs.2.1 5 = .ok (.aload_n 0, 1) := by decide +kernel
theorem d_M_tellsAs_6 : decode m_M_tellsAs.2.1 6 = .ok (.bipush (60), 2) := by decide +kernel
theorem d_M_tellsAs_8 : decode m_M_tellsAs.2.1 8 = .ok (.invokevirtual 302, 3) := by decide +kernel
theorem d_M_tellsAs_11 : decode m_M_tellsAs.2.1 11 = .ok (.aload_n 0, 1) := by decide +kernel
theorem d_M_tellsAs_12 : decode m_M_tellsAs.2.1 12 = .ok (.iconst 3, 1) := by decide +kernel
theorem d_M_tellsAs_13 : decode m_M_tellsAs.2.1 13 = .ok (.iload_n 2, 1) := by decide +kernel
theorem d_M_tellsAs_14 : decode m_M_tellsAs.2.1 14 = .ok (.invokevirtual 321, 3) := by decide +kernel
theorem d_M_tellsAs_17 : decode m_M_tellsAs.2.1 17 = .ok (.iconst 5, 1) := by decide +kernel
theorem d_M_tellsAs_18 : decode m_M_tellsAs.2.1 18 = .ok (.ixor, 1) := by decide +kernel
theorem d_M_tellsAs_19 : decode m_M_tellsAs.2.1 19 = .ok (.ireturn, 1) := by decide +kernel
theorem d_M_tellsAs_20 : decode m_M_tellsAs.2.1 20 = .ok (.iload_n 1, 1) := by decide +kernel
theorem d_M_tellsAs_21 : decode m_M_tellsAs.2.1 21 = .ok (.bipush (7), 2) := by decide +kernel
theorem d_M_tellsAs_23 : decode m_M_tellsAs.2.1 23 = .ok (.if_icmp .ne (18), 3) := by decide +kernel
theorem d_M_tellsAs_26 : decode m_M_tellsAs.2.1 26 = .ok (.aload_n 0, 1) := by decide +kernel
theorem d_M_tellsAs_27 : decode m_M_tellsAs.2.1 27 = .ok (.bipush (81), 2) := by decide +kernel
theorem d_M_tellsAs_29 : decode m_M_tellsAs.2.1 29 = .ok (.invokevirtual 302, 3) := by decide +kernel
theorem d_M_tellsAs_32 : decode m_M_tellsAs.2.1 32 = .ok (.aload_n 0, 1) := by decide +kernel
theorem d_M_tellsAs_33 : decode m_M_tellsAs.2.1 33 = .ok (.iconst 4, 1) := by decide +kernel
theorem d_M_tellsAs_34 : decode m_M_tellsAs.2.1 34 = .ok (.iload_n 2, 1) := by decide +kernel
theorem d_M_tellsAs_35 : decode m_M_tellsAs.2.1 35 = .ok (.invokevirtual 321, 3) := by decide +kernel
theorem d_M_tellsAs_38 : decode m_M_tellsAs.2.1 38 = .ok (.iconst 1, 1) := by decide +kernel
theorem d_M_tellsAs_39 : decode m_M_tellsAs.2.1 39 = .ok (.isub, 1) := by decide +kernel
theorem d_M_tellsAs_40 : decode m_M_tellsAs.2.1 40 = .ok (.ireturn, 1) := by decide +kernel
theorem d_M_tellsAs_41 : decode m_M_tellsAs.2.1 41 = .ok (.aload_n 0, 1) := by decide +kernel
theorem d_M_tellsAs_42 : decode m_M_tellsAs.2.1 42 = .ok (.iconst 2, 1) := by decide +kernel
theorem d_M_tellsAs_43 : decode m_M_tellsAs.2.1 43 = .ok (.invokevirtual 302, 3) := by decide +kernel
theorem d_M_tellsAs_46 : decode m_M_tellsAs.2.1 46 = .ok (.aload_n 0, 1) := by decide +kernel
theorem d_M_tellsAs_47 : decode m_M_tellsAs.2.1 47 = .ok (.aload_n 0, 1) := by decide +kernel
theorem d_M_tellsAs_48 : decode m_M_tellsAs.2.1 48 = .ok (.getfield 315, 3) := by decide +kernel
theorem d_M_tellsAs_51 : decode m_M_tellsAs.2.1 51 = .ok (.iload_n 2, 1) := by decide +kernel
theorem d_M_tellsAs_52 : decode m_M_tellsAs.2.1 52 = .ok (.invokevirtual 312, 3) := by decide +kernel
theorem d_M_tellsAs_55 : decode m_M_tellsAs.2.1 55 = .ok (.istore_n 3, 1) := by decide +kernel
theorem d_M_tellsAs_56 : decode m_M_tellsAs.2.1 56 = .ok (.iload_n 3, 1) := by decide +kernel
theorem d_M_tellsAs_57 : decode m_M_tellsAs.2.1 57 = .ok (.aload_n 0, 1) := by decide +kernel
theorem d_M_tellsAs_58 : decode m_M_tellsAs.2.1 58 = .ok (.aload_n 0, 1) := by decide +kernel
theorem d_M_tellsAs_59 : decode m_M_tellsAs.2.1 59 = .ok (.getfield 315, 3) := by decide +kernel
theorem d_M_tellsAs_62 : decode m_M_tellsAs.2.1 62 = .ok (.iconst 1, 1) := by decide +kernel
theorem d_M_tellsAs_63 : decode m_M_tellsAs.2.1 63 = .ok (.invokevirtual 318, 3) := by decide +kernel
theorem d_M_tellsAs_66 : decode m_M_tellsAs.2.1 66 = .ok (.isub, 1) := by decide +kernel
theorem d_M_tellsAs_67 : decode m_M_tellsAs.2.1 67 = .ok (.ireturn, 1) := by decide +kernel
theorem d_M_act_0 : decode m_M_act.2.1 0 = .ok (.aload_n 0, 1) := by decide +kernel
theorem d_M_act_1 : decode m_M_act.2.1 1 = .ok (.iconst 0, 1) := by decide +kernel
theorem d_M_act_2 : decode m_M_act.2.1 2 = .ok (.putfield 299, 3) := by decide +kernel
theorem d_M_act_5 : decode m_M_act.2.1 5 = .ok (.aload_n 0, 1) := by decide +kernel
theorem d_M_act_6 : decode m_M_act.2.1 6 = .ok (.iload_n 1, 1) := by decide +kernel
theorem d_M_act_7 : decode m_M_act.2.1 7 = .ok (.invokevirtual 324, 3) := by decide +kernel
theorem d_M_act_10 : decode m_M_act.2.1 10 = .ok (.ifCond .ne (5), 3) := by decide +kernel
theorem d_M_act_13 : decode m_M_act.2.1 13 = .ok (.iconst 0, 1) := by decide +kernel
theorem d_M_act_14 : decode m_M_act.2.1 14 = .ok (.ireturn, 1) := by decide +kernel
theorem d_M_act_15 : decode m_M_act.2.1 15 = .ok (.aload_n 0, 1) := by decide +kernel
theorem d_M_act_16 : decode m_M_act.2.1 16 = .ok (.aload_n 0, 1) := by decide +kernel
theorem d_M_act_17 : decode m_M_act.2.1 17 = .ok (.getfield 52, 3) := by decide +kernel
theorem d_M_act_20 : decode m_M_act.2.1 20 = .ok (.iload_n 1, 1) := by decide +kernel
theorem d_M_act_21 : decode m_M_act.2.1 21 = .ok (.iaload, 1) := by decide +kernel
theorem d_M_act_22 : decode m_M_act.2.1 22 = .ok (.putfield 315, 3) := by decide +kernel
theorem d_M_act_25 : decode m_M_act.2.1 25 = .ok (.aload_n 0, 1) := by decide +kernel
theorem d_M_act_26 : decode m_M_act.2.1 26 = .ok (.iload_n 1, 1) := by decide +kernel
theorem d_M_act_27 : decode m_M_act.2.1 27 = .ok (.putfield 309, 3) := by decide +kernel
theorem d_M_act_30 : decode m_M_act.2.1 30 = .ok (.iload_n 2, 1) := by decide +kernel
theorem d_M_act_31 : decode m_M_act.2.1 31 = .ok (.tableswitch (69) (0) (3) #[29, 39, 49, 59], 29) := by decide +kernel
theorem d_M_act_60 : decode m_M_act.2.1 60 = .ok (.aload_n 0, 1) := by decide +kernel
theorem d_M_act_61 : decode m_M_act.2.1 61 = .ok (.aload_n 0, 1) := by decide +kernel
theorem d_M_act_62 : decode m_M_act.2.1 62 = .ok (.getfield 315, 3) := by decide +kernel
theorem d_M_act_65 : decode m_M_act.2.1 65 = .ok (.iload_n 3, 1) := by decide +kernel
theorem d_M_act_66 : decode m_M_act.2.1 66 = .ok (.invokevirtual 306, 3) := by decide +kernel
theorem d_M_act_69 : decode m_M_act.2.1 69 = .ok (.ireturn, 1) := by decide +kernel
theorem d_M_act_70 : decode m_M_act.2.1 70 = .ok (.aload_n 0, 1) := by decide +kernel
theorem d_M_act_71 : decode m_M_act.2.1 71 = .ok (.aload_n 0, 1) := by decide +kernel
theorem d_M_act_72 : decode m_M_act.2.1 72 = .ok (.getfield 315, 3) := by decide +kernel
theorem d_M_act_75 : decode m_M_act.2.1 75 = .ok (.iload_n 3, 1) := by decide +kernel
theorem d_M_act_76 : decode m_M_act.2.1 76 = .ok (.invokevirtual 312, 3) := by decide +kernel
theorem d_M_act_79 : decode m_M_act.2.1 79 = .ok (.ireturn, 1) := by decide +kernel
theorem d_M_act_80 : decode m_M_act.2.1 80 = .ok (.aload_n 0, 1) := by decide +kernel
theorem d_M_act_81 : decode m_M_act.2.1 81 = .ok (.aload_n 0, 1) := by decide +kernel
theorem d_M_act_82 : decode m_M_act.2.1 82 = .ok (.getfield 315, 3) := by decide +kernel
theorem d_M_act_85 : decode m_M_act.2.1 85 = .ok (.iload_n 3, 1) := by decide +kernel
theorem d_M_act_86 : decode m_M_act.2.1 86 = .ok (.invokevirtual 318, 3) := by decide +kernel
theorem d_M_act_89 : decode m_M_act.2.1 89 = .ok (.ireturn, 1) := by decide +kernel
theorem d_M_act_90 : decode m_M_act.2.1 90 = .ok (.aload_n 0, 1) := by decide +kernel
theorem d_M_act_91 : decode m_M_act.2.1 91 = .ok (.aload_n 0, 1) := by decide +kernel
theorem d_M_act_92 : decode m_M_act.2.1 92 = .ok (.getfield 315, 3) := by decide +kernel
theorem d_M_act_95 : decode m_M_act.2.1 95 = .ok (.iload_n 3, 1) := by decide +kernel
theorem d_M_act_96 : decode m_M_act.2.1 96 = .ok (.invokevirtual 321, 3) := by decide +kernel
theorem d_M_act_99 : decode m_M_act.2.1 99 = .ok (.ireturn, 1) := by decide +kernel
theorem d_M_act_100 : decode m_M_act.2.1 100 = .ok (.iconst 0, 1) := by decide +kernel
theorem d_M_act_101 : decode m_M_act.2.1 101 = .ok (.ireturn, 1) := by decide +kernel
theorem d_M_trace_0 : decode m_M_trace.2.1 0 = .ok (.iload_n 1, 1) := by decide +kernel
theorem d_M_trace_1 : decode m_M_trace.2.1 1 = .ok (.ifCond .lt (26), 3) := by decide +kernel
theorem d_M_trace_27 : decode m_M_trace.2.1 27 = .ok (.iconst (-1), 1) := by decide +kernel
theorem d_M_trace_28 : decode m_M_trace.2.1 28 = .ok (.ireturn, 1) := by decide +kernel
theorem d_M_trace_4 : decode m_M_trace.2.1 4 = .ok (.iload_n 1, 1) := by decide +kernel
theorem d_M_trace_5 : decode m_M_trace.2.1 5 = .ok (.aload_n 0, 1) := by decide +kernel
theorem d_M_trace_6 : decode m_M_trace.2.1 6 = .ok (.getfield 299, 3) := by decide +kernel
theorem d_M_trace_9 : decode m_M_trace.2.1 9 = .ok (.if_icmp .ge (18), 3) := by decide +kernel
theorem d_M_trace_12 : decode m_M_trace.2.1 12 = .ok (.iload_n 1, 1) := by decide +kernel
theorem d_M_trace_13 : decode m_M_trace.2.1 13 = .ok (.bipush (24), 2) := by decide +kernel
theorem d_M_trace_15 : decode m_M_trace.2.1 15 = .ok (.if_icmp .ge (12), 3) := by decide +kernel
theorem d_M_trace_18 : decode m_M_trace.2.1 18 = .ok (.aload_n 0, 1) := by decide +kernel
theorem d_M_trace_19 : decode m_M_trace.2.1 19 = .ok (.getfield 55, 3) := by decide +kernel
theorem d_M_trace_22 : decode m_M_trace.2.1 22 = .ok (.iload_n 1, 1) := by decide +kernel
theorem d_M_trace_23 : decode m_M_trace.2.1 23 = .ok (.iaload, 1) := by decide +kernel
theorem d_M_trace_24 : decode m_M_trace.2.1 24 = .ok (.goto (4), 3) := by decide +kernel
theorem d_M_keep_0 : decode m_M_keep.2.1 0 = .ok (.iload_n 1, 1) := by decide +kernel
theorem d_M_keep_1 : decode m_M_keep.2.1 1 = .ok (.invokestatic 103, 3) := by decide +kernel
theorem d_M_keep_4 : decode m_M_keep.2.1 4 = .ok (.ifCond .eq (16), 3) := by decide +kernel
theorem d_M_keep_20 : decode m_M_keep.2.1 20 = .ok (.iconst (-1), 1) := by decide +kernel
theorem d_M_keep_21 : decode m_M_keep.2.1 21 = .ok (.ireturn, 1) := by decide +kernel
theorem d_M_keep_7 : decode m_M_keep.2.1 7 = .ok (.iload_n 2, 1) := by decide +kernel
theorem d_M_keep_8 : decode m_M_keep.2.1 8 = .ok (.iconst (-1), 1) := by decide +kernel
theorem d_M_keep_9 : decode m_M_keep.2.1 9 = .ok (.if_icmp .eq (13), 3) := by decide +kernel
theorem d_M_keep_22 : decode m_M_keep.2.1 22 = .ok (.aload_n 0, 1) := by decide +kernel
theorem d_M_keep_23 : decode m_M_keep.2.1 23 = .ok (.getfield 58, 3) := by decide +kernel
theorem d_M_keep_26 : decode m_M_keep.2.1 26 = .ok (.iload_n 1, 1) := by decide +kernel
theorem d_M_keep_27 : decode m_M_keep.2.1 27 = .ok (.iload_n 2, 1) := by decide +kernel
theorem d_M_keep_28 : decode m_M_keep.2.1 28 = .ok (.iastore, 1) := by decide +kernel
theorem d_M_keep_29 : decode m_M_keep.2.1 29 = .ok (.aload_n 0, 1) := by decide +kernel
theorem d_M_keep_30 : decode m_M_keep.2.1 30 = .ok (.getfield 61, 3) := by decide +kernel
theorem d_M_keep_33 : decode m_M_keep.2.1 33 = .ok (.iload_n 1, 1) := by decide +kernel
theorem d_M_keep_34 : decode m_M_keep.2.1 34 = .ok (.iconst 0, 1) := by decide +kernel
theorem d_M_keep_35 : decode m_M_keep.2.1 35 = .ok (.iastore, 1) := by decide +kernel
theorem d_M_keep_36 : decode m_M_keep.2.1 36 = .ok (.iconst 1, 1) := by decide +kernel
theorem d_M_keep_37 : decode m_M_keep.2.1 37 = .ok (.ireturn, 1) := by decide +kernel
theorem d_M_keep_12 : decode m_M_keep.2.1 12 = .ok (.aload_n 0, 1) := by decide +kernel
theorem d_M_keep_13 : decode m_M_keep.2.1 13 = .ok (.iload_n 2, 1) := by decide +kernel
theorem d_M_keep_14 : decode m_M_keep.2.1 14 = .ok (.invokevirtual 324, 3) := by decide +kernel
theorem d_M_keep_17 : decode m_M_keep.2.1 17 = .ok (.ifCond .ne (5), 3) := by decide +kernel
theorem d_M_row_0 : decode m_M_row.2.1 0 = .ok (.iload_n 1, 1) := by decide +kernel
theorem d_M_row_1 : decode m_M_row.2.1 1 = .ok (.invokestatic 103, 3) := by decide +kernel
theorem d_M_row_4 : decode m_M_row.2.1 4 = .ok (.ifCond .eq (21), 3) := by decide +kernel
theorem d_M_row_25 : decode m_M_row.2.1 25 = .ok (.iconst (-1), 1) := by decide +kernel
theorem d_M_row_26 : decode m_M_row.2.1 26 = .ok (.ireturn, 1) := by decide +kernel
theorem d_M_row_7 : decode m_M_row.2.1 7 = .ok (.iload_n 2, 1) := by decide +kernel
theorem d_M_row_8 : decode m_M_row.2.1 8 = .ok (.i2l, 1) := by decide +kernel
theorem d_M_row_9 : decode m_M_row.2.1 9 = .ok (.lconst 0, 1) := by decide +kernel
theorem d_M_row_10 : decode m_M_row.2.1 10 = .ok (.ldc2_w 115, 3) := by decide +kernel
theorem d_M_row_13 : decode m_M_row.2.1 13 = .ok (.invokestatic 84, 3) := by decide +kernel
theorem d_M_row_16 : decode m_M_row.2.1 16 = .ok (.ifCond .eq (9), 3) := by decide +kernel
theorem d_M_row_19 : decode m_M_row.2.1 19 = .ok (.iload_n 3, 1) := by decide +kernel
theorem d_M_row_20 : decode m_M_row.2.1 20 = .ok (.bipush (60), 2) := by decide +kernel
theorem d_M_row_22 : decode m_M_row.2.1 22 = .ok (.if_icmp .le (5), 3) := by decide +kernel
theorem d_M_row_27 : decode m_M_row.2.1 27 = .ok (.iload_n 3, 1) := by decide +kernel
theorem d_M_row_28 : decode m_M_row.2.1 28 = .ok (.ifCond .ge (6), 3) := by decide +kernel
theorem d_M_row_34 : decode m_M_row.2.1 34 = .ok (.aload_n 0, 1) := by decide +kernel
theorem d_M_row_35 : decode m_M_row.2.1 35 = .ok (.getfield 58, 3) := by decide +kernel
theorem d_M_row_38 : decode m_M_row.2.1 38 = .ok (.iload_n 1, 1) := by decide +kernel
theorem d_M_row_39 : decode m_M_row.2.1 39 = .ok (.bipush (50), 2) := by decide +kernel
theorem d_M_row_41 : decode m_M_row.2.1 41 = .ok (.iload_n 2, 1) := by decide +kernel
theorem d_M_row_42 : decode m_M_row.2.1 42 = .ok (.iadd, 1) := by decide +kernel
theorem d_M_row_43 : decode m_M_row.2.1 43 = .ok (.iastore, 1) := by decide +kernel
theorem d_M_row_44 : decode m_M_row.2.1 44 = .ok (.aload_n 0, 1) := by decide +kernel
theorem d_M_row_45 : decode m_M_row.2.1 45 = .ok (.getfield 61, 3) := by decide +kernel
theorem d_M_row_48 : decode m_M_row.2.1 48 = .ok (.iload_n 1, 1) := by decide +kernel
theorem d_M_row_49 : decode m_M_row.2.1 49 = .ok (.iload_n 3, 1) := by decide +kernel
theorem d_M_row_50 : decode m_M_row.2.1 50 = .ok (.iastore, 1) := by decide +kernel
theorem d_M_row_51 : decode m_M_row.2.1 51 = .ok (.bipush (60), 2) := by decide +kernel
theorem d_M_row_53 : decode m_M_row.2.1 53 = .ok (.iload_n 1, 1) := by decide +kernel
theorem d_M_row_54 : decode m_M_row.2.1 54 = .ok (.imul, 1) := by decide +kernel
theorem d_M_row_55 : decode m_M_row.2.1 55 = .ok (.istore 4, 2) := by decide +kernel
theorem d_M_row_57 : decode m_M_row.2.1 57 = .ok (.iload 4, 2) := by decide +kernel
theorem d_M_row_59 : decode m_M_row.2.1 59 = .ok (.bipush (60), 2) := by decide +kernel
theorem d_M_row_61 : decode m_M_row.2.1 61 = .ok (.iload_n 1, 1) := by decide +kernel
theorem d_M_row_62 : decode m_M_row.2.1 62 = .ok (.imul, 1) := by decide +kernel
theorem d_M_row_63 : decode m_M_row.2.1 63 = .ok (.bipush (60), 2) := by decide +kernel
theorem d_M_row_65 : decode m_M_row.2.1 65 = .ok (.iadd, 1) := by decide +kernel
theorem d_M_row_66 : decode m_M_row.2.1 66 = .ok (.if_icmp .ge (17), 3) := by decide +kernel
theorem d_M_row_83 : decode m_M_row.2.1 83 = .ok (.iconst 1, 1) := by decide +kernel
theorem d_M_row_84 : decode m_M_row.2.1 84 = .ok (.ireturn, 1) := by decide +kernel
theorem d_M_row_69 : decode m_M_row.2.1 69 = .ok (.aload_n 0, 1) := by decide +kernel
theorem d_M_row_70 : decode m_M_row.2.1 70 = .ok (.getfield 64, 3) := by decide +kernel
theorem d_M_row_73 : decode m_M_row.2.1 73 = .ok (.iload 4, 2) := by decide +kernel
theorem d_M_row_75 : decode m_M_row.2.1 75 = .ok (.lconst 0, 1) := by decide +kernel
theorem d_M_row_76 : decode m_M_row.2.1 76 = .ok (.lastore, 1) := by decide +kernel
theorem d_M_row_77 : decode m_M_row.2.1 77 = .ok (.iinc 4 (1), 3) := by decide +kernel
theorem d_M_row_80 : decode m_M_row.2.1 80 = .ok (.goto (-23), 3) := by decide +kernel
theorem d_M_row_31 : decode m_M_row.2.1 31 = .ok (.bipush (-14), 2) := by decide +kernel
theorem d_M_row_33 : decode m_M_row.2.1 33 = .ok (.ireturn, 1) := by decide +kernel
theorem d_M_refusal_0 : decode m_M_refusal.2.1 0 = .ok (.iload_n 1, 1) := by decide +kernel
theorem d_M_refusal_1 : decode m_M_refusal.2.1 1 = .ok (.invokestatic 103, 3) := by decide +kernel
theorem d_M_refusal_4 : decode m_M_refusal.2.1 4 = .ok (.ifCond .ne (5), 3) := by decide +kernel
theorem d_M_refusal_7 : decode m_M_refusal.2.1 7 = .ok (.iconst (-1), 1) := by decide +kernel
theorem d_M_refusal_8 : decode m_M_refusal.2.1 8 = .ok (.ireturn, 1) := by decide +kernel
theorem d_M_refusal_9 : decode m_M_refusal.2.1 9 = .ok (.aload_n 0, 1) := by decide +kernel
theorem d_M_refusal_10 : decode m_M_refusal.2.1 10 = .ok (.getfield 58, 3) := by decide +kernel
theorem d_M_refusal_13 : decode m_M_refusal.2.1 13 = .ok (.iload_n 1, 1) := by decide +kernel
theorem d_M_refusal_14 : decode m_M_refusal.2.1 14 = .ok (.iaload, 1) := by decide +kernel
theorem d_M_refusal_15 : decode m_M_refusal.2.1 15 = .ok (.ifCond .ge (6), 3) := by decide +kernel
theorem d_M_refusal_21 : decode m_M_refusal.2.1 21 = .ok (.aload_n 0, 1) := by decide +kernel
theorem d_M_refusal_22 : decode m_M_refusal.2.1 22 = .ok (.getfield 58, 3) := by decide +kernel
theorem d_M_refusal_25 : decode m_M_refusal.2.1 25 = .ok (.iload_n 1, 1) := by decide +kernel
theorem d_M_refusal_26 : decode m_M_refusal.2.1 26 = .ok (.iaload, 1) := by decide +kernel
theorem d_M_refusal_27 : decode m_M_refusal.2.1 27 = .ok (.bipush (50), 2) := by decide +kernel
theorem d_M_refusal_29 : decode m_M_refusal.2.1 29 = .ok (.if_icmp .ge (6), 3) := by decide +kernel
theorem d_M_refusal_35 : decode m_M_refusal.2.1 35 = .ok (.iload_n 2, 1) := by decide +kernel
theorem d_M_refusal_36 : decode m_M_refusal.2.1 36 = .ok (.ifCond .lt (17), 3) := by decide +kernel
theorem d_M_refusal_53 : decode m_M_refusal.2.1 53 = .ok (.bipush (-13), 2) := by decide +kernel
theorem d_M_refusal_55 : decode m_M_refusal.2.1 55 = .ok (.ireturn, 1) := by decide +kernel
theorem d_M_refusal_39 : decode m_M_refusal.2.1 39 = .ok (.iload_n 2, 1) := by decide +kernel
theorem d_M_refusal_40 : decode m_M_refusal.2.1 40 = .ok (.aload_n 0, 1) := by decide +kernel
theorem d_M_refusal_41 : decode m_M_refusal.2.1 41 = .ok (.getfield 61, 3) := by decide +kernel
theorem d_M_refusal_44 : decode m_M_refusal.2.1 44 = .ok (.iload_n 1, 1) := by decide +kernel
theorem d_M_refusal_45 : decode m_M_refusal.2.1 45 = .ok (.iaload, 1) := by decide +kernel
theorem d_M_refusal_46 : decode m_M_refusal.2.1 46 = .ok (.if_icmp .ge (7), 3) := by decide +kernel
theorem d_M_refusal_49 : decode m_M_refusal.2.1 49 = .ok (.iconst 0, 1) := by decide +kernel
theorem d_M_refusal_50 : decode m_M_refusal.2.1 50 = .ok (.goto (5), 3) := by decide +kernel
theorem d_M_refusal_32 : decode m_M_refusal.2.1 32 = .ok (.bipush (-12), 2) := by decide +kernel
theorem d_M_refusal_34 : decode m_M_refusal.2.1 34 = .ok (.ireturn, 1) := by decide +kernel
theorem d_M_refusal_18 : decode m_M_refusal.2.1 18 = .ok (.bipush (-11), 2) := by decide +kernel
theorem d_M_refusal_20 : decode m_M_refusal.2.1 20 = .ok (.ireturn, 1) := by decide +kernel
theorem d_M_asSort_0 : decode m_M_asSort.2.1 0 = .ok (.iload_n 0, 1) := by decide +kernel
theorem d_M_asSort_1 : decode m_M_asSort.2.1 1 = .ok (.ifCond .ne (10), 3) := by decide +kernel
theorem d_M_asSort_4 : decode m_M_asSort.2.1 4 = .ok (.lload_n 1, 1) := by decide +kernel
theorem d_M_asSort_5 : decode m_M_asSort.2.1 5 = .ok (.l2i, 1) := by decide +kernel
theorem d_M_asSort_6 : decode m_M_asSort.2.1 6 = .ok (.i2b, 1) := by decide +kernel
theorem d_M_asSort_7 : decode m_M_asSort.2.1 7 = .ok (.i2l, 1) := by decide +kernel
theorem d_M_asSort_8 : decode m_M_asSort.2.1 8 = .ok (.goto (46), 3) := by decide +kernel
theorem d_M_asSort_54 : decode m_M_asSort.2.1 54 = .ok (.lreturn, 1) := by decide +kernel
theorem d_M_asSort_11 : decode m_M_asSort.2.1 11 = .ok (.iload_n 0, 1) := by decide +kernel
theorem d_M_asSort_12 : decode m_M_asSort.2.1 12 = .ok (.iconst 1, 1) := by decide +kernel
theorem d_M_asSort_13 : decode m_M_asSort.2.1 13 = .ok (.if_icmp .ne (10), 3) := by decide +kernel
theorem d_M_asSort_16 : decode m_M_asSort.2.1 16 = .ok (.lload_n 1, 1) := by decide +kernel
theorem d_M_asSort_17 : decode m_M_asSort.2.1 17 = .ok (.l2i, 1) := by decide +kernel
theorem d_M_asSort_18 : decode m_M_asSort.2.1 18 = .ok (.i2s, 1) := by decide +kernel
theorem d_M_asSort_19 : decode m_M_asSort.2.1 19 = .ok (.i2l, 1) := by decide +kernel
theorem d_M_asSort_20 : decode m_M_asSort.2.1 20 = .ok (.goto (34), 3) := by decide +kernel
theorem d_M_asSort_23 : decode m_M_asSort.2.1 23 = .ok (.iload_n 0, 1) := by decide +kernel
theorem d_M_asSort_24 : decode m_M_asSort.2.1 24 = .ok (.iconst 2, 1) := by decide +kernel
theorem d_M_asSort_25 : decode m_M_asSort.2.1 25 = .ok (.if_icmp .ne (9), 3) := by decide +kernel
theorem d_M_asSort_28 : decode m_M_asSort.2.1 28 = .ok (.lload_n 1, 1) := by decide +kernel
theorem d_M_asSort_29 : decode m_M_asSort.2.1 29 = .ok (.l2i, 1) := by decide +kernel
theorem d_M_asSort_30 : decode m_M_asSort.2.1 30 = .ok (.i2l, 1) := by decide +kernel
theorem d_M_asSort_31 : decode m_M_asSort.2.1 31 = .ok (.goto (23), 3) := by decide +kernel
theorem d_M_asSort_34 : decode m_M_asSort.2.1 34 = .ok (.iload_n 0, 1) := by decide +kernel
theorem d_M_asSort_35 : decode m_M_asSort.2.1 35 = .ok (.iconst 4, 1) := by decide +kernel
theorem d_M_asSort_36 : decode m_M_asSort.2.1 36 = .ok (.if_icmp .ne (17), 3) := by decide +kernel
theorem d_M_asSort_39 : decode m_M_asSort.2.1 39 = .ok (.lload_n 1, 1) := by decide +kernel
theorem d_M_asSort_40 : decode m_M_asSort.2.1 40 = .ok (.lconst 0, 1) := by decide +kernel
theorem d_M_asSort_41 : decode m_M_asSort.2.1 41 = .ok (.lcmp, 1) := by decide +kernel
theorem d_M_asSort_42 : decode m_M_asSort.2.1 42 = .ok (.ifCond .eq (7), 3) := by decide +kernel
theorem d_M_asSort_49 : decode m_M_asSort.2.1 49 = .ok (.lconst 0, 1) := by decide +kernel
theorem d_M_asSort_50 : decode m_M_asSort.2.1 50 = .ok (.goto (4), 3) := by decide +kernel
theorem d_M_asSort_45 : decode m_M_asSort.2.1 45 = .ok (.lconst 1, 1) := by decide +kernel
theorem d_M_asSort_46 : decode m_M_asSort.2.1 46 = .ok (.goto (8), 3) := by decide +kernel
theorem d_M_asSort_53 : decode m_M_asSort.2.1 53 = .ok (.lload_n 1, 1) := by decide +kernel
theorem d_M_put_0 : decode m_M_put.2.1 0 = .ok (.aload_n 0, 1) := by decide +kernel
theorem d_M_put_1 : decode m_M_put.2.1 1 = .ok (.iload_n 1, 1) := by decide +kernel
theorem d_M_put_2 : decode m_M_put.2.1 2 = .ok (.iload_n 2, 1) := by decide +kernel
theorem d_M_put_3 : decode m_M_put.2.1 3 = .ok (.invokevirtual 327, 3) := by decide +kernel
theorem d_M_put_6 : decode m_M_put.2.1 6 = .ok (.istore 5, 2) := by decide +kernel
theorem d_M_put_8 : decode m_M_put.2.1 8 = .ok (.iload 5, 2) := by decide +kernel
theorem d_M_put_10 : decode m_M_put.2.1 10 = .ok (.ifCond .ne (27), 3) := by decide +kernel
theorem d_M_put_13 : decode m_M_put.2.1 13 = .ok (.aload_n 0, 1) := by decide +kernel
theorem d_M_put_14 : decode m_M_put.2.1 14 = .ok (.getfield 64, 3) := by decide +kernel
theorem d_M_put_17 : decode m_M_put.2.1 17 = .ok (.bipush (60), 2) := by decide +kernel
theorem d_M_put_19 : decode m_M_put.2.1 19 = .ok (.iload_n 1, 1) := by decide +kernel
theorem d_M_put_20 : decode m_M_put.2.1 20 = .ok (.imul, 1) := by decide +kernel
theorem d_M_put_21 : decode m_M_put.2.1 21 = .ok (.iload_n 2, 1) := by decide +kernel
theorem d_M_put_22 : decode m_M_put.2.1 22 = .ok (.iadd, 1) := by decide +kernel
theorem d_M_put_23 : decode m_M_put.2.1 23 = .ok (.aload_n 0, 1) := by decide +kernel
theorem d_M_put_24 : decode m_M_put.2.1 24 = .ok (.getfield 58, 3) := by decide +kernel
theorem d_M_put_27 : decode m_M_put.2.1 27 = .ok (.iload_n 1, 1) := by decide +kernel
theorem d_M_put_28 : decode m_M_put.2.1 28 = .ok (.iaload, 1) := by decide +kernel
theorem d_M_put_29 : decode m_M_put.2.1 29 = .ok (.bipush (50), 2) := by decide +kernel
theorem d_M_put_31 : decode m_M_put.2.1 31 = .ok (.isub, 1) := by decide +kernel
theorem d_M_put_32 : decode m_M_put.2.1 32 = .ok (.lload_n 3, 1) := by decide +kernel
theorem d_M_put_33 : decode m_M_put.2.1 33 = .ok (.invokestatic 330, 3) := by decide +kernel
theorem d_M_put_36 : decode m_M_put.2.1 36 = .ok (.lastore, 1) := by decide +kernel
theorem d_M_put_37 : decode m_M_put.2.1 37 = .ok (.iload 5, 2) := by decide +kernel
theorem d_M_put_39 : decode m_M_put.2.1 39 = .ok (.ifCond .ne (7), 3) := by decide +kernel
theorem d_M_put_42 : decode m_M_put.2.1 42 = .ok (.iconst 1, 1) := by decide +kernel
theorem d_M_put_43 : decode m_M_put.2.1 43 = .ok (.goto (5), 3) := by decide +kernel
theorem d_M_put_48 : decode m_M_put.2.1 48 = .ok (.ireturn, 1) := by decide +kernel
theorem d_M_put_46 : decode m_M_put.2.1 46 = .ok (.iload 5, 2) := by decide +kernel
theorem d_M_element_0 : decode m_M_element.2.1 0 = .ok (.aload_n 0, 1) := by decide +kernel
theorem d_M_element_1 : decode m_M_element.2.1 1 = .ok (.iload_n 1, 1) := by decide +kernel
theorem d_M_element_2 : decode m_M_element.2.1 2 = .ok (.iload_n 2, 1) := by decide +kernel
theorem d_M_element_3 : decode m_M_element.2.1 3 = .ok (.invokevirtual 327, 3) := by decide +kernel
theorem d_M_element_6 : decode m_M_element.2.1 6 = .ok (.ifCond .eq (9), 3) := by decide +kernel
theorem d_M_element_15 : decode m_M_element.2.1 15 = .ok (.aload_n 0, 1) := by decide +kernel
theorem d_M_element_16 : decode m_M_element.2.1 16 = .ok (.getfield 64, 3) := by decide +kernel
theorem d_M_element_19 : decode m_M_element.2.1 19 = .ok (.bipush (60), 2) := by decide +kernel
theorem d_M_element_21 : decode m_M_element.2.1 21 = .ok (.iload_n 1, 1) := by decide +kernel
theorem d_M_element_22 : decode m_M_element.2.1 22 = .ok (.imul, 1) := by decide +kernel
theorem d_M_element_23 : decode m_M_element.2.1 23 = .ok (.iload_n 2, 1) := by decide +kernel
theorem d_M_element_24 : decode m_M_element.2.1 24 = .ok (.iadd, 1) := by decide +kernel
theorem d_M_element_25 : decode m_M_element.2.1 25 = .ok (.laload, 1) := by decide +kernel
theorem d_M_element_26 : decode m_M_element.2.1 26 = .ok (.lreturn, 1) := by decide +kernel
theorem d_M_element_9 : decode m_M_element.2.1 9 = .ok (.ldc2_w 249, 3) := by decide +kernel
theorem d_M_element_12 : decode m_M_element.2.1 12 = .ok (.goto (14), 3) := by decide +kernel
theorem d_M_shift_0 : decode m_M_shift.2.1 0 = .ok (.iload_n 1, 1) := by decide +kernel
theorem d_M_shift_1 : decode m_M_shift.2.1 1 = .ok (.invokestatic 103, 3) := by decide +kernel
theorem d_M_shift_4 : decode m_M_shift.2.1 4 = .ok (.ifCond .eq (10), 3) := by decide +kernel
theorem d_M_shift_14 : decode m_M_shift.2.1 14 = .ok (.iconst (-1), 1) := by decide +kernel
theorem d_M_shift_15 : decode m_M_shift.2.1 15 = .ok (.ireturn, 1) := by decide +kernel
theorem d_M_shift_7 : decode m_M_shift.2.1 7 = .ok (.iload_n 3, 1) := by decide +kernel
theorem d_M_shift_8 : decode m_M_shift.2.1 8 = .ok (.invokestatic 103, 3) := by decide +kernel
theorem d_M_shift_11 : decode m_M_shift.2.1 11 = .ok (.ifCond .ne (5), 3) := by decide +kernel
theorem d_M_shift_16 : decode m_M_shift.2.1 16 = .ok (.aload_n 0, 1) := by decide +kernel
theorem d_M_shift_17 : decode m_M_shift.2.1 17 = .ok (.getfield 58, 3) := by decide +kernel
theorem d_M_shift_20 : decode m_M_shift.2.1 20 = .ok (.iload_n 1, 1) := by decide +kernel
theorem d_M_shift_21 : decode m_M_shift.2.1 21 = .ok (.iaload, 1) := by decide +kernel
theorem d_M_shift_22 : decode m_M_shift.2.1 22 = .ok (.ifCond .lt (12), 3) := by decide +kernel
theorem d_M_shift_34 : decode m_M_shift.2.1 34 = .ok (.bipush (-11), 2) := by decide +kernel
theorem d_M_shift_36 : decode m_M_shift.2.1 36 = .ok (.ireturn, 1) := by decide +kernel
theorem d_M_shift_25 : decode m_M_shift.2.1 25 = .ok (.aload_n 0, 1) := by decide +kernel
theorem d_M_shift_26 : decode m_M_shift.2.1 26 = .ok (.getfield 58, 3) := by decide +kernel
theorem d_M_shift_29 : decode m_M_shift.2.1 29 = .ok (.iload_n 3, 1) := by decide +kernel
theorem d_M_shift_30 : decode m_M_shift.2.1 30 = .ok (.iaload, 1) := by decide +kernel
theorem d_M_shift_31 : decode m_M_shift.2.1 31 = .ok (.ifCond .ge (6), 3) := by decide +kernel
theorem d_M_shift_37 : decode m_M_shift.2.1 37 = .ok (.aload_n 0, 1) := by decide +kernel
theorem d_M_shift_38 : decode m_M_shift.2.1 38 = .ok (.getfield 58, 3) := by decide +kernel
theorem d_M_shift_41 : decode m_M_shift.2.1 41 = .ok (.iload_n 1, 1) := by decide +kernel
theorem d_M_shift_42 : decode m_M_shift.2.1 42 = .ok (.iaload, 1) := by decide +kernel
theorem d_M_shift_43 : decode m_M_shift.2.1 43 = .ok (.bipush (50), 2) := by decide +kernel
theorem d_M_shift_45 : decode m_M_shift.2.1 45 = .ok (.if_icmp .lt (18), 3) := by decide +kernel
theorem d_M_shift_63 : decode m_M_shift.2.1 63 = .ok (.bipush (-12), 2) := by decide +kernel
theorem d_M_shift_65 : decode m_M_shift.2.1 65 = .ok (.ireturn, 1) := by decide +kernel
theorem d_M_shift_48 : decode m_M_shift.2.1 48 = .ok (.aload_n 0, 1) := by decide +kernel
theorem d_M_shift_49 : decode m_M_shift.2.1 49 = .ok (.getfield 58, 3) := by decide +kernel
theorem d_M_shift_52 : decode m_M_shift.2.1 52 = .ok (.iload_n 1, 1) := by decide +kernel
theorem d_M_shift_53 : decode m_M_shift.2.1 53 = .ok (.iaload, 1) := by decide +kernel
theorem d_M_shift_54 : decode m_M_shift.2.1 54 = .ok (.aload_n 0, 1) := by decide +kernel
theorem d_M_shift_55 : decode m_M_shift.2.1 55 = .ok (.getfield 58, 3) := by decide +kernel
theorem d_M_shift_58 : decode m_M_shift.2.1 58 = .ok (.iload_n 3, 1) := by decide +kernel
theorem d_M_shift_59 : decode m_M_shift.2.1 59 = .ok (.iaload, 1) := by decide +kernel
theorem d_M_shift_60 : decode m_M_shift.2.1 60 = .ok (.if_icmp .eq (6), 3) := by decide +kernel
theorem d_M_shift_66 : decode m_M_shift.2.1 66 = .ok (.iload 5, 2) := by decide +kernel
theorem d_M_shift_68 : decode m_M_shift.2.1 68 = .ok (.ifCond .lt (39), 3) := by decide +kernel
theorem d_M_shift_107 : decode m_M_shift.2.1 107 = .ok (.bipush (-13), 2) := by decide +kernel
theorem d_M_shift_109 : decode m_M_shift.2.1 109 = .ok (.ireturn, 1) := by decide +kernel
theorem d_M_shift_71 : decode m_M_shift.2.1 71 = .ok (.iload_n 2, 1) := by decide +kernel
theorem d_M_shift_72 : decode m_M_shift.2.1 72 = .ok (.ifCond .lt (35), 3) := by decide +kernel
theorem d_M_shift_75 : decode m_M_shift.2.1 75 = .ok (.iload 4, 2) := by decide +kernel
theorem d_M_shift_77 : decode m_M_shift.2.1 77 = .ok (.ifCond .lt (30), 3) := by decide +kernel
theorem d_M_shift_80 : decode m_M_shift.2.1 80 = .ok (.iload_n 2, 1) := by decide +kernel
theorem d_M_shift_81 : decode m_M_shift.2.1 81 = .ok (.aload_n 0, 1) := by decide +kernel
theorem d_M_shift_82 : decode m_M_shift.2.1 82 = .ok (.getfield 61, 3) := by decide +kernel
theorem d_M_shift_85 : decode m_M_shift.2.1 85 = .ok (.iload_n 1, 1) := by decide +kernel
theorem d_M_shift_86 : decode m_M_shift.2.1 86 = .ok (.iaload, 1) := by decide +kernel
theorem d_M_shift_87 : decode m_M_shift.2.1 87 = .ok (.iload 5, 2) := by decide +kernel
theorem d_M_shift_89 : decode m_M_shift.2.1 89 = .ok (.isub, 1) := by decide +kernel
theorem d_M_shift_90 : decode m_M_shift.2.1 90 = .ok (.if_icmp .gt (17), 3) := by decide +kernel
theorem d_M_shift_93 : decode m_M_shift.2.1 93 = .ok (.iload 4, 2) := by decide +kernel
theorem d_M_shift_95 : decode m_M_shift.2.1 95 = .ok (.aload_n 0, 1) := by decide +kernel
theorem d_M_shift_96 : decode m_M_shift.2.1 96 = .ok (.getfield 61, 3) := by decide +kernel
theorem d_M_shift_99 : decode m_M_shift.2.1 99 = .ok (.iload_n 3, 1) := by decide +kernel
theorem d_M_shift_100 : decode m_M_shift.2.1 100 = .ok (.iaload, 1) := by decide +kernel
theorem d_M_shift_101 : decode m_M_shift.2.1 101 = .ok (.iload 5, 2) := by decide +kernel
theorem d_M_shift_103 : decode m_M_shift.2.1 103 = .ok (.isub, 1) := by decide +kernel
theorem d_M_shift_104 : decode m_M_shift.2.1 104 = .ok (.if_icmp .le (6), 3) := by decide +kernel
theorem d_M_shift_110 : decode m_M_shift.2.1 110 = .ok (.iconst 0, 1) := by decide +kernel
theorem d_M_shift_111 : decode m_M_shift.2.1 111 = .ok (.istore 6, 2) := by decide +kernel
theorem d_M_shift_113 : decode m_M_shift.2.1 113 = .ok (.iload 6, 2) := by decide +kernel
theorem d_M_shift_115 : decode m_M_shift.2.1 115 = .ok (.iload 5, 2) := by decide +kernel
theorem d_M_shift_117 : decode m_M_shift.2.1 117 = .ok (.if_icmp .ge (30), 3) := by decide +kernel
theorem d_M_shift_147 : decode m_M_shift.2.1 147 = .ok (.iconst 0, 1) := by decide +kernel
theorem d_M_shift_148 : decode m_M_shift.2.1 148 = .ok (.istore 6, 2) := by decide +kernel
theorem d_M_shift_150 : decode m_M_shift.2.1 150 = .ok (.iload 6, 2) := by decide +kernel
theorem d_M_shift_152 : decode m_M_shift.2.1 152 = .ok (.iload 5, 2) := by decide +kernel
theorem d_M_shift_154 : decode m_M_shift.2.1 154 = .ok (.if_icmp .ge (31), 3) := by decide +kernel
theorem d_M_shift_185 : decode m_M_shift.2.1 185 = .ok (.iload 5, 2) := by decide +kernel
theorem d_M_shift_187 : decode m_M_shift.2.1 187 = .ok (.ireturn, 1) := by decide +kernel
theorem d_M_shift_157 : decode m_M_shift.2.1 157 = .ok (.aload_n 0, 1) := by decide +kernel
theorem d_M_shift_158 : decode m_M_shift.2.1 158 = .ok (.getfield 64, 3) := by decide +kernel
theorem d_M_shift_161 : decode m_M_shift.2.1 161 = .ok (.bipush (60), 2) := by decide +kernel
theorem d_M_shift_163 : decode m_M_shift.2.1 163 = .ok (.iload_n 3, 1) := by decide +kernel
theorem d_M_shift_164 : decode m_M_shift.2.1 164 = .ok (.imul, 1) := by decide +kernel
theorem d_M_shift_165 : decode m_M_shift.2.1 165 = .ok (.iload 4, 2) := by decide +kernel
theorem d_M_shift_167 : decode m_M_shift.2.1 167 = .ok (.iadd, 1) := by decide +kernel
theorem d_M_shift_168 : decode m_M_shift.2.1 168 = .ok (.iload 6, 2) := by decide +kernel
theorem d_M_shift_170 : decode m_M_shift.2.1 170 = .ok (.iadd, 1) := by decide +kernel
theorem d_M_shift_171 : decode m_M_shift.2.1 171 = .ok (.aload_n 0, 1) := by decide +kernel
theorem d_M_shift_172 : decode m_M_shift.2.1 172 = .ok (.getfield 68, 3) := by decide +kernel
theorem d_M_shift_175 : decode m_M_shift.2.1 175 = .ok (.iload 6, 2) := by decide +kernel
theorem d_M_shift_177 : decode m_M_shift.2.1 177 = .ok (.laload, 1) := by decide +kernel
theorem d_M_shift_178 : decode m_M_shift.2.1 178 = .ok (.lastore, 1) := by decide +kernel
theorem d_M_shift_179 : decode m_M_shift.2.1 179 = .ok (.iinc 6 (1), 3) := by decide +kernel
theorem d_M_shift_182 : decode m_M_shift.2.1 182 = .ok (.goto (-32), 3) := by decide +kernel
theorem d_M_shift_120 : decode m_M_shift.2.1 120 = .ok (.aload_n 0, 1) := by decide +kernel
theorem d_M_shift_121 : decode m_M_shift.2.1 121 = .ok (.getfield 68, 3) := by decide +kernel
theorem d_M_shift_124 : decode m_M_shift.2.1 124 = .ok (.iload 6, 2) := by decide +kernel
theorem d_M_shift_126 : decode m_M_shift.2.1 126 = .ok (.aload_n 0, 1) := by decide +kernel
theorem d_M_shift_127 : decode m_M_shift.2.1 127 = .ok (.getfield 64, 3) := by decide +kernel
theorem d_M_shift_130 : decode m_M_shift.2.1 130 = .ok (.bipush (60), 2) := by decide +kernel
theorem d_M_shift_132 : decode m_M_shift.2.1 132 = .ok (.iload_n 1, 1) := by decide +kernel
theorem d_M_shift_133 : decode m_M_shift.2.1 133 = .ok (.imul, 1) := by decide +kernel
theorem d_M_shift_134 : decode m_M_shift.2.1 134 = .ok (.iload_n 2, 1) := by decide +kernel
theorem d_M_shift_135 : decode m_M_shift.2.1 135 = .ok (.iadd, 1) := by decide +kernel
theorem d_M_shift_136 : decode m_M_shift.2.1 136 = .ok (.iload 6, 2) := by decide +kernel
theorem d_M_shift_138 : decode m_M_shift.2.1 138 = .ok (.iadd, 1) := by decide +kernel
theorem d_M_shift_139 : decode m_M_shift.2.1 139 = .ok (.laload, 1) := by decide +kernel
theorem d_M_shift_140 : decode m_M_shift.2.1 140 = .ok (.lastore, 1) := by decide +kernel
theorem d_M_shift_141 : decode m_M_shift.2.1 141 = .ok (.iinc 6 (1), 3) := by decide +kernel
theorem d_M_shift_144 : decode m_M_shift.2.1 144 = .ok (.goto (-31), 3) := by decide +kernel
theorem d_M_taken_0 : decode m_M_taken.2.1 0 = .ok (.iload_n 1, 1) := by decide +kernel
theorem d_M_taken_1 : decode m_M_taken.2.1 1 = .ok (.invokestatic 103, 3) := by decide +kernel
theorem d_M_taken_4 : decode m_M_taken.2.1 4 = .ok (.ifCond .eq (15), 3) := by decide +kernel
theorem d_M_taken_19 : decode m_M_taken.2.1 19 = .ok (.iconst (-1), 1) := by decide +kernel
theorem d_M_taken_20 : decode m_M_taken.2.1 20 = .ok (.ireturn, 1) := by decide +kernel
theorem d_M_taken_7 : decode m_M_taken.2.1 7 = .ok (.iload_n 2, 1) := by decide +kernel
theorem d_M_taken_8 : decode m_M_taken.2.1 8 = .ok (.i2l, 1) := by decide +kernel
theorem d_M_taken_9 : decode m_M_taken.2.1 9 = .ok (.lconst 0, 1) := by decide +kernel
theorem d_M_taken_10 : decode m_M_taken.2.1 10 = .ok (.ldc2_w 90, 3) := by decide +kernel
theorem d_M_taken_13 : decode m_M_taken.2.1 13 = .ok (.invokestatic 84, 3) := by decide +kernel
theorem d_M_taken_16 : decode m_M_taken.2.1 16 = .ok (.ifCond .ne (5), 3) := by decide +kernel
theorem d_M_taken_21 : decode m_M_taken.2.1 21 = .ok (.aload_n 0, 1) := by decide +kernel
theorem d_M_taken_22 : decode m_M_taken.2.1 22 = .ok (.getfield 58, 3) := by decide +kernel
theorem d_M_taken_25 : decode m_M_taken.2.1 25 = .ok (.iload_n 1, 1) := by decide +kernel
theorem d_M_taken_26 : decode m_M_taken.2.1 26 = .ok (.iaload, 1) := by decide +kernel
theorem d_M_taken_27 : decode m_M_taken.2.1 27 = .ok (.ifCond .ge (6), 3) := by decide +kernel
theorem d_M_taken_33 : decode m_M_taken.2.1 33 = .ok (.aload_n 0, 1) := by decide +kernel
theorem d_M_taken_34 : decode m_M_taken.2.1 34 = .ok (.getfield 58, 3) := by decide +kernel
theorem d_M_taken_37 : decode m_M_taken.2.1 37 = .ok (.iload_n 1, 1) := by decide +kernel
theorem d_M_taken_38 : decode m_M_taken.2.1 38 = .ok (.iaload, 1) := by decide +kernel
theorem d_M_taken_39 : decode m_M_taken.2.1 39 = .ok (.bipush (50), 2) := by decide +kernel
theorem d_M_taken_41 : decode m_M_taken.2.1 41 = .ok (.if_icmp .lt (6), 3) := by decide +kernel
theorem d_M_taken_47 : decode m_M_taken.2.1 47 = .ok (.aload_n 0, 1) := by decide +kernel
theorem d_M_taken_48 : decode m_M_taken.2.1 48 = .ok (.aload_n 0, 1) := by decide +kernel
theorem d_M_taken_49 : decode m_M_taken.2.1 49 = .ok (.getfield 58, 3) := by decide +kernel
theorem d_M_taken_52 : decode m_M_taken.2.1 52 = .ok (.iload_n 1, 1) := by decide +kernel
theorem d_M_taken_53 : decode m_M_taken.2.1 53 = .ok (.iaload, 1) := by decide +kernel
theorem d_M_taken_54 : decode m_M_taken.2.1 54 = .ok (.invokevirtual 334, 3) := by decide +kernel
theorem d_M_taken_57 : decode m_M_taken.2.1 57 = .ok (.istore_n 3, 1) := by decide +kernel
theorem d_M_taken_58 : decode m_M_taken.2.1 58 = .ok (.iload_n 3, 1) := by decide +kernel
theorem d_M_taken_59 : decode m_M_taken.2.1 59 = .ok (.iload_n 2, 1) := by decide +kernel
theorem d_M_taken_60 : decode m_M_taken.2.1 60 = .ok (.if_icmp .eq (15), 3) := by decide +kernel
theorem d_M_taken_75 : decode m_M_taken.2.1 75 = .ok (.iload_n 3, 1) := by decide +kernel
theorem d_M_taken_76 : decode m_M_taken.2.1 76 = .ok (.iload_n 2, 1) := by decide +kernel
theorem d_M_taken_77 : decode m_M_taken.2.1 77 = .ok (.if_icmp .ne (16), 3) := by decide +kernel
theorem d_M_taken_80 : decode m_M_taken.2.1 80 = .ok (.aload_n 0, 1) := by decide +kernel
theorem d_M_taken_81 : decode m_M_taken.2.1 81 = .ok (.aload_n 0, 1) := by decide +kernel
theorem d_M_taken_82 : decode m_M_taken.2.1 82 = .ok (.getfield 58, 3) := by decide +kernel
theorem d_M_taken_85 : decode m_M_taken.2.1 85 = .ok (.iload_n 1, 1) := by decide +kernel
theorem d_M_taken_86 : decode m_M_taken.2.1 86 = .ok (.iaload, 1) := by decide +kernel
theorem d_M_taken_87 : decode m_M_taken.2.1 87 = .ok (.invokevirtual 334, 3) := by decide +kernel
theorem d_M_taken_90 : decode m_M_taken.2.1 90 = .ok (.goto (5), 3) := by decide +kernel
theorem d_M_taken_95 : decode m_M_taken.2.1 95 = .ok (.ireturn, 1) := by decide +kernel
theorem d_M_taken_93 : decode m_M_taken.2.1 93 = .ok (.bipush (-12), 2) := by decide +kernel
theorem d_M_taken_63 : decode m_M_taken.2.1 63 = .ok (.iload_n 3, 1) := by decide +kernel
theorem d_M_taken_64 : decode m_M_taken.2.1 64 = .ok (.ifCond .le (11), 3) := by decide +kernel
theorem d_M_taken_67 : decode m_M_taken.2.1 67 = .ok (.iload_n 3, 1) := by decide +kernel
theorem d_M_taken_68 : decode m_M_taken.2.1 68 = .ok (.invokestatic 337, 3) := by decide +kernel
theorem d_M_taken_71 : decode m_M_taken.2.1 71 = .ok (.istore_n 3, 1) := by decide +kernel
theorem d_M_taken_72 : decode m_M_taken.2.1 72 = .ok (.goto (-14), 3) := by decide +kernel
theorem d_M_taken_44 : decode m_M_taken.2.1 44 = .ok (.bipush (-12), 2) := by decide +kernel
theorem d_M_taken_46 : decode m_M_taken.2.1 46 = .ok (.ireturn, 1) := by decide +kernel
theorem d_M_taken_30 : decode m_M_taken.2.1 30 = .ok (.bipush (-11), 2) := by decide +kernel
theorem d_M_taken_32 : decode m_M_taken.2.1 32 = .ok (.ireturn, 1) := by decide +kernel
theorem d_M_count_0 : decode m_M_count.2.1 0 = .ok (.iload_n 1, 1) := by decide +kernel
theorem d_M_count_1 : decode m_M_count.2.1 1 = .ok (.tableswitch (72) (0) (5) #[39, 44, 52, 57, 62, 67], 39) := by decide +kernel
theorem d_M_count_40 : decode m_M_count.2.1 40 = .ok (.aload_n 0, 1) := by decide +kernel
theorem d_M_count_41 : decode m_M_count.2.1 41 = .ok (.getfield 81, 3) := by decide +kernel
theorem d_M_count_44 : decode m_M_count.2.1 44 = .ok (.ireturn, 1) := by decide +kernel
theorem d_M_count_45 : decode m_M_count.2.1 45 = .ok (.aload_n 0, 1) := by decide +kernel
theorem d_M_count_46 : decode m_M_count.2.1 46 = .ok (.getfield 277, 3) := by decide +kernel
theorem d_M_count_49 : decode m_M_count.2.1 49 = .ok (.invokestatic 228, 3) := by decide +kernel
theorem d_M_count_52 : decode m_M_count.2.1 52 = .ok (.ireturn, 1) := by decide +kernel
theorem d_M_count_53 : decode m_M_count.2.1 53 = .ok (.aload_n 0, 1) := by decide +kernel
theorem d_M_count_54 : decode m_M_count.2.1 54 = .ok (.getfield 138, 3) := by decide +kernel
theorem d_M_count_57 : decode m_M_count.2.1 57 = .ok (.ireturn, 1) := by decide +kernel
theorem d_M_count_58 : decode m_M_count.2.1 58 = .ok (.aload_n 0, 1) := by decide +kernel
theorem d_M_count_59 : decode m_M_count.2.1 59 = .ok (.getfield 75, 3) := by decide +kernel
theorem d_M_count_62 : decode m_M_count.2.1 62 = .ok (.ireturn, 1) := by decide +kernel
theorem d_M_count_63 : decode m_M_count.2.1 63 = .ok (.aload_n 0, 1) := by decide +kernel
theorem d_M_count_64 : decode m_M_count.2.1 64 = .ok (.getfield 296, 3) := by decide +kernel
theorem d_M_count_67 : decode m_M_count.2.1 67 = .ok (.ireturn, 1) := by decide +kernel
theorem d_M_count_68 : decode m_M_count.2.1 68 = .ok (.aload_n 0, 1) := by decide +kernel
theorem d_M_count_69 : decode m_M_count.2.1 69 = .ok (.getfield 299, 3) := by decide +kernel
theorem d_M_count_72 : decode m_M_count.2.1 72 = .ok (.ireturn, 1) := by decide +kernel
theorem d_M_count_73 : decode m_M_count.2.1 73 = .ok (.iconst (-1), 1) := by decide +kernel
theorem d_M_count_74 : decode m_M_count.2.1 74 = .ok (.ireturn, 1) := by decide +kernel
