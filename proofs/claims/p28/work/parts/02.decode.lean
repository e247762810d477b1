theorem dX0_init_0 : decode cX0_init 0 = .ok (.aload_n 0, 1) := by decide +kernel
theorem dX0_init_1 : decode cX0_init 1 = .ok (.invokespecial 3, 3) := by decide +kernel
theorem dX0_init_4 : decode cX0_init 4 = .ok (.aload_n 0, 1) := by decide +kernel
theorem dX0_init_5 : decode cX0_init 5 = .ok (.aload_n 1, 1) := by decide +kernel
theorem dX0_init_6 : decode cX0_init 6 = .ok (.putfield 9, 3) := by decide +kernel
theorem dX0_init_9 : decode cX0_init 9 = .ok (.aload_n 0, 1) := by decide +kernel
theorem dX0_init_10 : decode cX0_init 10 = .ok (.iconst 5, 1) := by decide +kernel
theorem dX0_init_11 : decode cX0_init 11 = .ok (.anewarray 15, 3) := by decide +kernel
theorem dX0_init_14 : decode cX0_init 14 = .ok (.putfield 17, 3) := by decide +kernel
theorem dX0_init_17 : decode cX0_init 17 = .ok (.iconst 0, 1) := by decide +kernel
theorem dX0_init_18 : decode cX0_init 18 = .ok (.istore_n 2, 1) := by decide +kernel
theorem dX0_init_19 : decode cX0_init 19 = .ok (.iload_n 2, 1) := by decide +kernel
theorem dX0_init_20 : decode cX0_init 20 = .ok (.iconst 5, 1) := by decide +kernel
theorem dX0_init_21 : decode cX0_init 21 = .ok (.if_icmp .ge 22, 3) := by decide +kernel
theorem dX0_init_24 : decode cX0_init 24 = .ok (.aload_n 0, 1) := by decide +kernel
theorem dX0_init_25 : decode cX0_init 25 = .ok (.getfield 17, 3) := by decide +kernel
theorem dX0_init_28 : decode cX0_init 28 = .ok (.iload_n 2, 1) := by decide +kernel
theorem dX0_init_29 : decode cX0_init 29 = .ok (.new 15, 3) := by decide +kernel
theorem dX0_init_32 : decode cX0_init 32 = .ok (.dup, 1) := by decide +kernel
theorem dX0_init_33 : decode cX0_init 33 = .ok (.invokespecial 21, 3) := by decide +kernel
theorem dX0_init_36 : decode cX0_init 36 = .ok (.aastore, 1) := by decide +kernel
theorem dX0_init_37 : decode cX0_init 37 = .ok (.iinc 2 1, 3) := by decide +kernel
theorem dX0_init_40 : decode cX0_init 40 = .ok (.goto (-21), 3) := by decide +kernel
theorem dX0_init_43 : decode cX0_init 43 = .ok (.aload_n 0, 1) := by decide +kernel
theorem dX0_init_44 : decode cX0_init 44 = .ok (.new 22, 3) := by decide +kernel
theorem dX0_init_47 : decode cX0_init 47 = .ok (.dup, 1) := by decide +kernel
theorem dX0_init_48 : decode cX0_init 48 = .ok (.bipush 12, 2) := by decide +kernel
theorem dX0_init_50 : decode cX0_init 50 = .ok (.invokespecial 24, 3) := by decide +kernel
theorem dX0_init_53 : decode cX0_init 53 = .ok (.putfield 27, 3) := by decide +kernel
theorem dX0_init_56 : decode cX0_init 56 = .ok (.aload_n 0, 1) := by decide +kernel
theorem dX0_init_57 : decode cX0_init 57 = .ok (.new 22, 3) := by decide +kernel
theorem dX0_init_60 : decode cX0_init 60 = .ok (.dup, 1) := by decide +kernel
theorem dX0_init_61 : decode cX0_init 61 = .ok (.bipush 20, 2) := by decide +kernel
theorem dX0_init_63 : decode cX0_init 63 = .ok (.invokespecial 24, 3) := by decide +kernel
theorem dX0_init_66 : decode cX0_init 66 = .ok (.putfield 31, 3) := by decide +kernel
theorem dX0_init_69 : decode cX0_init 69 = .ok (.aload_n 0, 1) := by decide +kernel
theorem dX0_init_70 : decode cX0_init 70 = .ok (.new 22, 3) := by decide +kernel
theorem dX0_init_73 : decode cX0_init 73 = .ok (.dup, 1) := by decide +kernel
theorem dX0_init_74 : decode cX0_init 74 = .ok (.bipush 20, 2) := by decide +kernel
theorem dX0_init_76 : decode cX0_init 76 = .ok (.invokespecial 24, 3) := by decide +kernel
theorem dX0_init_79 : decode cX0_init 79 = .ok (.putfield 34, 3) := by decide +kernel
theorem dX0_init_82 : decode cX0_init 82 = .ok (.aload_n 0, 1) := by decide +kernel
theorem dX0_init_83 : decode cX0_init 83 = .ok (.new 22, 3) := by decide +kernel
theorem dX0_init_86 : decode cX0_init 86 = .ok (.dup, 1) := by decide +kernel
theorem dX0_init_87 : decode cX0_init 87 = .ok (.bipush 20, 2) := by decide +kernel
theorem dX0_init_89 : decode cX0_init 89 = .ok (.invokespecial 24, 3) := by decide +kernel
theorem dX0_init_92 : decode cX0_init 92 = .ok (.putfield 37, 3) := by decide +kernel
theorem dX0_init_95 : decode cX0_init 95 = .ok (.aload_n 0, 1) := by decide +kernel
theorem dX0_init_96 : decode cX0_init 96 = .ok (.new 40, 3) := by decide +kernel
theorem dX0_init_99 : decode cX0_init 99 = .ok (.dup, 1) := by decide +kernel
theorem dX0_init_100 : decode cX0_init 100 = .ok (.iconst 1, 1) := by decide +kernel
theorem dX0_init_101 : decode cX0_init 101 = .ok (.newarray .int, 2) := by decide +kernel
theorem dX0_init_103 : decode cX0_init 103 = .ok (.dup, 1) := by decide +kernel
theorem dX0_init_104 : decode cX0_init 104 = .ok (.iconst 0, 1) := by decide +kernel
theorem dX0_init_105 : decode cX0_init 105 = .ok (.iconst (-1), 1) := by decide +kernel
theorem dX0_init_106 : decode cX0_init 106 = .ok (.iastore, 1) := by decide +kernel
theorem dX0_init_107 : decode cX0_init 107 = .ok (.invokespecial 42, 3) := by decide +kernel
theorem dX0_init_110 : decode cX0_init 110 = .ok (.putfield 45, 3) := by decide +kernel
theorem dX0_init_113 : decode cX0_init 113 = .ok (.aload_n 0, 1) := by decide +kernel
theorem dX0_init_114 : decode cX0_init 114 = .ok (.aload_n 0, 1) := by decide +kernel
theorem dX0_init_115 : decode cX0_init 115 = .ok (.getfield 45, 3) := by decide +kernel
theorem dX0_init_118 : decode cX0_init 118 = .ok (.putfield 49, 3) := by decide +kernel
theorem dX0_init_121 : decode cX0_init 121 = .ok (.aload_n 0, 1) := by decide +kernel
theorem dX0_init_122 : decode cX0_init 122 = .ok (.iconst 2, 1) := by decide +kernel
theorem dX0_init_123 : decode cX0_init 123 = .ok (.putfield 52, 3) := by decide +kernel
theorem dX0_init_126 : decode cX0_init 126 = .ok (.return_, 1) := by decide +kernel
theorem dX0_start_0 : decode cX0_start 0 = .ok (.aload_n 0, 1) := by decide +kernel
theorem dX0_start_1 : decode cX0_start 1 = .ok (.iconst 2, 1) := by decide +kernel
theorem dX0_start_2 : decode cX0_start 2 = .ok (.putfield 52, 3) := by decide +kernel
theorem dX0_start_5 : decode cX0_start 5 = .ok (.aload_n 0, 1) := by decide +kernel
theorem dX0_start_6 : decode cX0_start 6 = .ok (.iconst 0, 1) := by decide +kernel
theorem dX0_start_7 : decode cX0_start 7 = .ok (.putfield 56, 3) := by decide +kernel
theorem dX0_start_10 : decode cX0_start 10 = .ok (.aload_n 0, 1) := by decide +kernel
theorem dX0_start_11 : decode cX0_start 11 = .ok (.getfield 27, 3) := by decide +kernel
theorem dX0_start_14 : decode cX0_start 14 = .ok (.invokevirtual 59, 3) := by decide +kernel
theorem dX0_start_17 : decode cX0_start 17 = .ok (.aload_n 0, 1) := by decide +kernel
theorem dX0_start_18 : decode cX0_start 18 = .ok (.aload_n 0, 1) := by decide +kernel
theorem dX0_start_19 : decode cX0_start 19 = .ok (.getfield 45, 3) := by decide +kernel
theorem dX0_start_22 : decode cX0_start 22 = .ok (.putfield 49, 3) := by decide +kernel
theorem dX0_start_25 : decode cX0_start 25 = .ok (.aload_n 0, 1) := by decide +kernel
theorem dX0_start_26 : decode cX0_start 26 = .ok (.iconst 0, 1) := by decide +kernel
theorem dX0_start_27 : decode cX0_start 27 = .ok (.putfield 62, 3) := by decide +kernel
theorem dX0_start_30 : decode cX0_start 30 = .ok (.aload_n 0, 1) := by decide +kernel
theorem dX0_start_31 : decode cX0_start 31 = .ok (.iconst 0, 1) := by decide +kernel
theorem dX0_start_32 : decode cX0_start 32 = .ok (.putfield 65, 3) := by decide +kernel
theorem dX0_start_35 : decode cX0_start 35 = .ok (.aload_n 0, 1) := by decide +kernel
theorem dX0_start_36 : decode cX0_start 36 = .ok (.iconst 0, 1) := by decide +kernel
theorem dX0_start_37 : decode cX0_start 37 = .ok (.putfield 68, 3) := by decide +kernel
theorem dX0_start_40 : decode cX0_start 40 = .ok (.aload_n 0, 1) := by decide +kernel
theorem dX0_start_41 : decode cX0_start 41 = .ok (.invokevirtual 71, 3) := by decide +kernel
theorem dX0_start_44 : decode cX0_start 44 = .ok (.return_, 1) := by decide +kernel
theorem dX0_copyFrom_0 : decode cX0_copyFrom 0 = .ok (.aload_n 0, 1) := by decide +kernel
theorem dX0_copyFrom_1 : decode cX0_copyFrom 1 = .ok (.aload_n 1, 1) := by decide +kernel
theorem dX0_copyFrom_2 : decode cX0_copyFrom 2 = .ok (.getfield 52, 3) := by decide +kernel
theorem dX0_copyFrom_5 : decode cX0_copyFrom 5 = .ok (.putfield 52, 3) := by decide +kernel
theorem dX0_copyFrom_8 : decode cX0_copyFrom 8 = .ok (.aload_n 0, 1) := by decide +kernel
theorem dX0_copyFrom_9 : decode cX0_copyFrom 9 = .ok (.aload_n 1, 1) := by decide +kernel
theorem dX0_copyFrom_10 : decode cX0_copyFrom 10 = .ok (.getfield 56, 3) := by decide +kernel
theorem dX0_copyFrom_13 : decode cX0_copyFrom 13 = .ok (.putfield 56, 3) := by decide +kernel
theorem dX0_copyFrom_16 : decode cX0_copyFrom 16 = .ok (.iconst 0, 1) := by decide +kernel
theorem dX0_copyFrom_17 : decode cX0_copyFrom 17 = .ok (.istore_n 2, 1) := by decide +kernel
theorem dX0_copyFrom_18 : decode cX0_copyFrom 18 = .ok (.iload_n 2, 1) := by decide +kernel
theorem dX0_copyFrom_19 : decode cX0_copyFrom 19 = .ok (.iconst 5, 1) := by decide +kernel
theorem dX0_copyFrom_20 : decode cX0_copyFrom 20 = .ok (.if_icmp .ge 24, 3) := by decide +kernel
theorem dX0_copyFrom_23 : decode cX0_copyFrom 23 = .ok (.aload_n 0, 1) := by decide +kernel
theorem dX0_copyFrom_24 : decode cX0_copyFrom 24 = .ok (.getfield 17, 3) := by decide +kernel
theorem dX0_copyFrom_27 : decode cX0_copyFrom 27 = .ok (.iload_n 2, 1) := by decide +kernel
theorem dX0_copyFrom_28 : decode cX0_copyFrom 28 = .ok (.aaload, 1) := by decide +kernel
theorem dX0_copyFrom_29 : decode cX0_copyFrom 29 = .ok (.aload_n 1, 1) := by decide +kernel
theorem dX0_copyFrom_30 : decode cX0_copyFrom 30 = .ok (.getfield 17, 3) := by decide +kernel
theorem dX0_copyFrom_33 : decode cX0_copyFrom 33 = .ok (.iload_n 2, 1) := by decide +kernel
theorem dX0_copyFrom_34 : decode cX0_copyFrom 34 = .ok (.aaload, 1) := by decide +kernel
theorem dX0_copyFrom_35 : decode cX0_copyFrom 35 = .ok (.invokevirtual 74, 3) := by decide +kernel
theorem dX0_copyFrom_38 : decode cX0_copyFrom 38 = .ok (.iinc 2 1, 3) := by decide +kernel
theorem dX0_copyFrom_41 : decode cX0_copyFrom 41 = .ok (.goto (-23), 3) := by decide +kernel
theorem dX0_copyFrom_44 : decode cX0_copyFrom 44 = .ok (.aload_n 0, 1) := by decide +kernel
theorem dX0_copyFrom_45 : decode cX0_copyFrom 45 = .ok (.getfield 27, 3) := by decide +kernel
theorem dX0_copyFrom_48 : decode cX0_copyFrom 48 = .ok (.aload_n 1, 1) := by decide +kernel
theorem dX0_copyFrom_49 : decode cX0_copyFrom 49 = .ok (.getfield 27, 3) := by decide +kernel
theorem dX0_copyFrom_52 : decode cX0_copyFrom 52 = .ok (.invokevirtual 78, 3) := by decide +kernel
theorem dX0_copyFrom_55 : decode cX0_copyFrom 55 = .ok (.aload_n 0, 1) := by decide +kernel
theorem dX0_copyFrom_56 : decode cX0_copyFrom 56 = .ok (.getfield 31, 3) := by decide +kernel
theorem dX0_copyFrom_59 : decode cX0_copyFrom 59 = .ok (.aload_n 1, 1) := by decide +kernel
theorem dX0_copyFrom_60 : decode cX0_copyFrom 60 = .ok (.getfield 31, 3) := by decide +kernel
theorem dX0_copyFrom_63 : decode cX0_copyFrom 63 = .ok (.invokevirtual 78, 3) := by decide +kernel
theorem dX0_copyFrom_66 : decode cX0_copyFrom 66 = .ok (.aload_n 0, 1) := by decide +kernel
theorem dX0_copyFrom_67 : decode cX0_copyFrom 67 = .ok (.getfield 34, 3) := by decide +kernel
theorem dX0_copyFrom_70 : decode cX0_copyFrom 70 = .ok (.aload_n 1, 1) := by decide +kernel
theorem dX0_copyFrom_71 : decode cX0_copyFrom 71 = .ok (.getfield 34, 3) := by decide +kernel
theorem dX0_copyFrom_74 : decode cX0_copyFrom 74 = .ok (.invokevirtual 78, 3) := by decide +kernel
theorem dX0_copyFrom_77 : decode cX0_copyFrom 77 = .ok (.aload_n 0, 1) := by decide +kernel
theorem dX0_copyFrom_78 : decode cX0_copyFrom 78 = .ok (.getfield 37, 3) := by decide +kernel
theorem dX0_copyFrom_81 : decode cX0_copyFrom 81 = .ok (.aload_n 1, 1) := by decide +kernel
theorem dX0_copyFrom_82 : decode cX0_copyFrom 82 = .ok (.getfield 37, 3) := by decide +kernel
theorem dX0_copyFrom_85 : decode cX0_copyFrom 85 = .ok (.invokevirtual 78, 3) := by decide +kernel
theorem dX0_copyFrom_88 : decode cX0_copyFrom 88 = .ok (.aload_n 0, 1) := by decide +kernel
theorem dX0_copyFrom_89 : decode cX0_copyFrom 89 = .ok (.aload_n 1, 1) := by decide +kernel
theorem dX0_copyFrom_90 : decode cX0_copyFrom 90 = .ok (.getfield 49, 3) := by decide +kernel
theorem dX0_copyFrom_93 : decode cX0_copyFrom 93 = .ok (.putfield 49, 3) := by decide +kernel
theorem dX0_copyFrom_96 : decode cX0_copyFrom 96 = .ok (.aload_n 0, 1) := by decide +kernel
theorem dX0_copyFrom_97 : decode cX0_copyFrom 97 = .ok (.aload_n 1, 1) := by decide +kernel
theorem dX0_copyFrom_98 : decode cX0_copyFrom 98 = .ok (.getfield 62, 3) := by decide +kernel
theorem dX0_copyFrom_101 : decode cX0_copyFrom 101 = .ok (.putfield 62, 3) := by decide +kernel
theorem dX0_copyFrom_104 : decode cX0_copyFrom 104 = .ok (.aload_n 0, 1) := by decide +kernel
theorem dX0_copyFrom_105 : decode cX0_copyFrom 105 = .ok (.aload_n 1, 1) := by decide +kernel
theorem dX0_copyFrom_106 : decode cX0_copyFrom 106 = .ok (.getfield 65, 3) := by decide +kernel
theorem dX0_copyFrom_109 : decode cX0_copyFrom 109 = .ok (.putfield 65, 3) := by decide +kernel
theorem dX0_copyFrom_112 : decode cX0_copyFrom 112 = .ok (.aload_n 0, 1) := by decide +kernel
theorem dX0_copyFrom_113 : decode cX0_copyFrom 113 = .ok (.aload_n 1, 1) := by decide +kernel
theorem dX0_copyFrom_114 : decode cX0_copyFrom 114 = .ok (.getfield 81, 3) := by decide +kernel
theorem dX0_copyFrom_117 : decode cX0_copyFrom 117 = .ok (.putfield 81, 3) := by decide +kernel
theorem dX0_copyFrom_120 : decode cX0_copyFrom 120 = .ok (.aload_n 0, 1) := by decide +kernel
theorem dX0_copyFrom_121 : decode cX0_copyFrom 121 = .ok (.aload_n 1, 1) := by decide +kernel
theorem dX0_copyFrom_122 : decode cX0_copyFrom 122 = .ok (.getfield 84, 3) := by decide +kernel
theorem dX0_copyFrom_125 : decode cX0_copyFrom 125 = .ok (.putfield 84, 3) := by decide +kernel
theorem dX0_copyFrom_128 : decode cX0_copyFrom 128 = .ok (.aload_n 0, 1) := by decide +kernel
theorem dX0_copyFrom_129 : decode cX0_copyFrom 129 = .ok (.aload_n 1, 1) := by decide +kernel
theorem dX0_copyFrom_130 : decode cX0_copyFrom 130 = .ok (.getfield 68, 3) := by decide +kernel
theorem dX0_copyFrom_133 : decode cX0_copyFrom 133 = .ok (.putfield 68, 3) := by decide +kernel
theorem dX0_copyFrom_136 : decode cX0_copyFrom 136 = .ok (.return_, 1) := by decide +kernel
theorem dX0_setRule_0 : decode cX0_setRule 0 = .ok (.aload_n 0, 1) := by decide +kernel
theorem dX0_setRule_1 : decode cX0_setRule 1 = .ok (.aload_n 1, 1) := by decide +kernel
theorem dX0_setRule_2 : decode cX0_setRule 2 = .ok (.putfield 49, 3) := by decide +kernel
theorem dX0_setRule_5 : decode cX0_setRule 5 = .ok (.return_, 1) := by decide +kernel
theorem dX0_bidder_0 : decode cX0_bidder 0 = .ok (.iload_n 1, 1) := by decide +kernel
theorem dX0_bidder_1 : decode cX0_bidder 1 = .ok (.ifCond .lt 25, 3) := by decide +kernel
theorem dX0_bidder_4 : decode cX0_bidder 4 = .ok (.iload_n 1, 1) := by decide +kernel
theorem dX0_bidder_5 : decode cX0_bidder 5 = .ok (.aload_n 0, 1) := by decide +kernel
theorem dX0_bidder_6 : decode cX0_bidder 6 = .ok (.getfield 56, 3) := by decide +kernel
theorem dX0_bidder_9 : decode cX0_bidder 9 = .ok (.if_icmp .ge 17, 3) := by decide +kernel
theorem dX0_bidder_12 : decode cX0_bidder 12 = .ok (.iload_n 1, 1) := by decide +kernel
theorem dX0_bidder_13 : decode cX0_bidder 13 = .ok (.iconst 5, 1) := by decide +kernel
theorem dX0_bidder_14 : decode cX0_bidder 14 = .ok (.if_icmp .ge 12, 3) := by decide +kernel
theorem dX0_bidder_17 : decode cX0_bidder 17 = .ok (.aload_n 0, 1) := by decide +kernel
theorem dX0_bidder_18 : decode cX0_bidder 18 = .ok (.getfield 17, 3) := by decide +kernel
theorem dX0_bidder_21 : decode cX0_bidder 21 = .ok (.iload_n 1, 1) := by decide +kernel
theorem dX0_bidder_22 : decode cX0_bidder 22 = .ok (.aaload, 1) := by decide +kernel
theorem dX0_bidder_23 : decode cX0_bidder 23 = .ok (.goto 4, 3) := by decide +kernel
theorem dX0_bidder_26 : decode cX0_bidder 26 = .ok (.aconst_null, 1) := by decide +kernel
theorem dX0_bidder_27 : decode cX0_bidder 27 = .ok (.areturn, 1) := by decide +kernel
theorem dX0_addPlayer_0 : decode cX0_addPlayer 0 = .ok (.aload_n 0, 1) := by decide +kernel
theorem dX0_addPlayer_1 : decode cX0_addPlayer 1 = .ok (.getfield 56, 3) := by decide +kernel
theorem dX0_addPlayer_4 : decode cX0_addPlayer 4 = .ok (.ifCond .lt 34, 3) := by decide +kernel
theorem dX0_addPlayer_7 : decode cX0_addPlayer 7 = .ok (.aload_n 0, 1) := by decide +kernel
theorem dX0_addPlayer_8 : decode cX0_addPlayer 8 = .ok (.getfield 56, 3) := by decide +kernel
theorem dX0_addPlayer_11 : decode cX0_addPlayer 11 = .ok (.iconst 5, 1) := by decide +kernel
theorem dX0_addPlayer_12 : decode cX0_addPlayer 12 = .ok (.if_icmp .ge 26, 3) := by decide +kernel
theorem dX0_addPlayer_15 : decode cX0_addPlayer 15 = .ok (.aload_n 0, 1) := by decide +kernel
theorem dX0_addPlayer_16 : decode cX0_addPlayer 16 = .ok (.getfield 17, 3) := by decide +kernel
theorem dX0_addPlayer_19 : decode cX0_addPlayer 19 = .ok (.aload_n 0, 1) := by decide +kernel
theorem dX0_addPlayer_20 : decode cX0_addPlayer 20 = .ok (.getfield 56, 3) := by decide +kernel
theorem dX0_addPlayer_23 : decode cX0_addPlayer 23 = .ok (.aaload, 1) := by decide +kernel
theorem dX0_addPlayer_24 : decode cX0_addPlayer 24 = .ok (.iload_n 1, 1) := by decide +kernel
theorem dX0_addPlayer_25 : decode cX0_addPlayer 25 = .ok (.invokevirtual 87, 3) := by decide +kernel
theorem dX0_addPlayer_28 : decode cX0_addPlayer 28 = .ok (.aload_n 0, 1) := by decide +kernel
theorem dX0_addPlayer_29 : decode cX0_addPlayer 29 = .ok (.dup, 1) := by decide +kernel
theorem dX0_addPlayer_30 : decode cX0_addPlayer 30 = .ok (.getfield 56, 3) := by decide +kernel
theorem dX0_addPlayer_33 : decode cX0_addPlayer 33 = .ok (.iconst 1, 1) := by decide +kernel
theorem dX0_addPlayer_34 : decode cX0_addPlayer 34 = .ok (.iadd, 1) := by decide +kernel
theorem dX0_addPlayer_35 : decode cX0_addPlayer 35 = .ok (.putfield 56, 3) := by decide +kernel
theorem dX0_addPlayer_38 : decode cX0_addPlayer 38 = .ok (.return_, 1) := by decide +kernel
theorem dX0_isOver_0 : decode cX0_isOver 0 = .ok (.aload_n 0, 1) := by decide +kernel
theorem dX0_isOver_1 : decode cX0_isOver 1 = .ok (.getfield 56, 3) := by decide +kernel
theorem dX0_isOver_4 : decode cX0_isOver 4 = .ok (.ifCond .eq 17, 3) := by decide +kernel
theorem dX0_isOver_7 : decode cX0_isOver 7 = .ok (.aload_n 0, 1) := by decide +kernel
theorem dX0_isOver_8 : decode cX0_isOver 8 = .ok (.getfield 27, 3) := by decide +kernel
theorem dX0_isOver_11 : decode cX0_isOver 11 = .ok (.aload_n 0, 1) := by decide +kernel
theorem dX0_isOver_12 : decode cX0_isOver 12 = .ok (.getfield 62, 3) := by decide +kernel
theorem dX0_isOver_15 : decode cX0_isOver 15 = .ok (.invokevirtual 90, 3) := by decide +kernel
theorem dX0_isOver_18 : decode cX0_isOver 18 = .ok (.ifCond .ne 7, 3) := by decide +kernel
theorem dX0_isOver_21 : decode cX0_isOver 21 = .ok (.iconst 1, 1) := by decide +kernel
theorem dX0_isOver_22 : decode cX0_isOver 22 = .ok (.goto 4, 3) := by decide +kernel
theorem dX0_isOver_25 : decode cX0_isOver 25 = .ok (.iconst 0, 1) := by decide +kernel
theorem dX0_isOver_26 : decode cX0_isOver 26 = .ok (.ireturn, 1) := by decide +kernel
theorem dX0_productOfBids_0 : decode cX0_productOfBids 0 = .ok (.iconst 0, 1) := by decide +kernel
theorem dX0_productOfBids_1 : decode cX0_productOfBids 1 = .ok (.istore_n 3, 1) := by decide +kernel
theorem dX0_productOfBids_2 : decode cX0_productOfBids 2 = .ok (.iload_n 1, 1) := by decide +kernel
theorem dX0_productOfBids_3 : decode cX0_productOfBids 3 = .ok (.istore 4, 2) := by decide +kernel
theorem dX0_productOfBids_5 : decode cX0_productOfBids 5 = .ok (.iload 4, 2) := by decide +kernel
theorem dX0_productOfBids_7 : decode cX0_productOfBids 7 = .ok (.iload_n 2, 1) := by decide +kernel
theorem dX0_productOfBids_8 : decode cX0_productOfBids 8 = .ok (.if_icmp .ge 27, 3) := by decide +kernel
theorem dX0_productOfBids_11 : decode cX0_productOfBids 11 = .ok (.aload_n 0, 1) := by decide +kernel
theorem dX0_productOfBids_12 : decode cX0_productOfBids 12 = .ok (.getfield 9, 3) := by decide +kernel
theorem dX0_productOfBids_15 : decode cX0_productOfBids 15 = .ok (.iload_n 3, 1) := by decide +kernel
theorem dX0_productOfBids_16 : decode cX0_productOfBids 16 = .ok (.aload_n 0, 1) := by decide +kernel
theorem dX0_productOfBids_17 : decode cX0_productOfBids 17 = .ok (.getfield 34, 3) := by decide +kernel
theorem dX0_productOfBids_20 : decode cX0_productOfBids 20 = .ok (.iload 4, 2) := by decide +kernel
theorem dX0_productOfBids_22 : decode cX0_productOfBids 22 = .ok (.invokevirtual 94, 3) := by decide +kernel
theorem dX0_productOfBids_25 : decode cX0_productOfBids 25 = .ok (.invokevirtual 98, 3) := by decide +kernel
theorem dX0_productOfBids_28 : decode cX0_productOfBids 28 = .ok (.istore_n 3, 1) := by decide +kernel
theorem dX0_productOfBids_29 : decode cX0_productOfBids 29 = .ok (.iinc 4 1, 3) := by decide +kernel
theorem dX0_productOfBids_32 : decode cX0_productOfBids 32 = .ok (.goto (-27), 3) := by decide +kernel
theorem dX0_productOfBids_35 : decode cX0_productOfBids 35 = .ok (.iload_n 3, 1) := by decide +kernel
theorem dX0_productOfBids_36 : decode cX0_productOfBids 36 = .ok (.ireturn, 1) := by decide +kernel
theorem dX0_winningElement_0 : decode cX0_winningElement 0 = .ok (.aload_n 0, 1) := by decide +kernel
theorem dX0_winningElement_1 : decode cX0_winningElement 1 = .ok (.getfield 9, 3) := by decide +kernel
theorem dX0_winningElement_4 : decode cX0_winningElement 4 = .ok (.aload_n 0, 1) := by decide +kernel
theorem dX0_winningElement_5 : decode cX0_winningElement 5 = .ok (.iconst 0, 1) := by decide +kernel
theorem dX0_winningElement_6 : decode cX0_winningElement 6 = .ok (.aload_n 0, 1) := by decide +kernel
theorem dX0_winningElement_7 : decode cX0_winningElement 7 = .ok (.getfield 34, 3) := by decide +kernel
theorem dX0_winningElement_10 : decode cX0_winningElement 10 = .ok (.invokevirtual 104, 3) := by decide +kernel
theorem dX0_winningElement_13 : decode cX0_winningElement 13 = .ok (.invokevirtual 108, 3) := by decide +kernel
theorem dX0_winningElement_16 : decode cX0_winningElement 16 = .ok (.invokevirtual 111, 3) := by decide +kernel
theorem dX0_winningElement_19 : decode cX0_winningElement 19 = .ok (.ireturn, 1) := by decide +kernel
theorem dX0_priceOf_0 : decode cX0_priceOf 0 = .ok (.aload_n 0, 1) := by decide +kernel
theorem dX0_priceOf_1 : decode cX0_priceOf 1 = .ok (.getfield 9, 3) := by decide +kernel
theorem dX0_priceOf_4 : decode cX0_priceOf 4 = .ok (.aload_n 1, 1) := by decide +kernel
theorem dX0_priceOf_5 : decode cX0_priceOf 5 = .ok (.getfield 114, 3) := by decide +kernel
theorem dX0_priceOf_8 : decode cX0_priceOf 8 = .ok (.iload_n 2, 1) := by decide +kernel
theorem dX0_priceOf_9 : decode cX0_priceOf 9 = .ok (.invokevirtual 94, 3) := by decide +kernel
theorem dX0_priceOf_12 : decode cX0_priceOf 12 = .ok (.invokevirtual 117, 3) := by decide +kernel
theorem dX0_priceOf_15 : decode cX0_priceOf 15 = .ok (.istore_n 3, 1) := by decide +kernel
theorem dX0_priceOf_16 : decode cX0_priceOf 16 = .ok (.aload_n 0, 1) := by decide +kernel
theorem dX0_priceOf_17 : decode cX0_priceOf 17 = .ok (.getfield 49, 3) := by decide +kernel
theorem dX0_priceOf_20 : decode cX0_priceOf 20 = .ok (.aload_n 1, 1) := by decide +kernel
theorem dX0_priceOf_21 : decode cX0_priceOf 21 = .ok (.getfield 120, 3) := by decide +kernel
theorem dX0_priceOf_24 : decode cX0_priceOf 24 = .ok (.iload_n 2, 1) := by decide +kernel
theorem dX0_priceOf_25 : decode cX0_priceOf 25 = .ok (.invokevirtual 94, 3) := by decide +kernel
theorem dX0_priceOf_28 : decode cX0_priceOf 28 = .ok (.iload_n 3, 1) := by decide +kernel
theorem dX0_priceOf_29 : decode cX0_priceOf 29 = .ok (.aload_n 0, 1) := by decide +kernel
theorem dX0_priceOf_30 : decode cX0_priceOf 30 = .ok (.getfield 34, 3) := by decide +kernel
theorem dX0_priceOf_33 : decode cX0_priceOf 33 = .ok (.invokevirtual 104, 3) := by decide +kernel
theorem dX0_priceOf_36 : decode cX0_priceOf 36 = .ok (.aload_n 0, 1) := by decide +kernel
theorem dX0_priceOf_37 : decode cX0_priceOf 37 = .ok (.getfield 81, 3) := by decide +kernel
theorem dX0_priceOf_40 : decode cX0_priceOf 40 = .ok (.invokevirtual 123, 3) := by decide +kernel
theorem dX0_priceOf_43 : decode cX0_priceOf 43 = .ok (.ireturn, 1) := by decide +kernel
theorem dX0_playCard_0 : decode cX0_playCard 0 = .ok (.aload_n 0, 1) := by decide +kernel
theorem dX0_playCard_1 : decode cX0_playCard 1 = .ok (.aload_n 0, 1) := by decide +kernel
theorem dX0_playCard_2 : decode cX0_playCard 2 = .ok (.getfield 65, 3) := by decide +kernel
theorem dX0_playCard_5 : decode cX0_playCard 5 = .ok (.invokevirtual 127, 3) := by decide +kernel
theorem dX0_playCard_8 : decode cX0_playCard 8 = .ok (.astore_n 2, 1) := by decide +kernel
theorem dX0_playCard_9 : decode cX0_playCard 9 = .ok (.aload_n 2, 1) := by decide +kernel
theorem dX0_playCard_10 : decode cX0_playCard 10 = .ok (.ifnonnull 5, 3) := by decide +kernel
theorem dX0_playCard_13 : decode cX0_playCard 13 = .ok (.iconst (-1), 1) := by decide +kernel
theorem dX0_playCard_14 : decode cX0_playCard 14 = .ok (.ireturn, 1) := by decide +kernel
theorem dX0_playCard_15 : decode cX0_playCard 15 = .ok (.aload_n 0, 1) := by decide +kernel
theorem dX0_playCard_16 : decode cX0_playCard 16 = .ok (.aload_n 2, 1) := by decide +kernel
theorem dX0_playCard_17 : decode cX0_playCard 17 = .ok (.iload_n 1, 1) := by decide +kernel
theorem dX0_playCard_18 : decode cX0_playCard 18 = .ok (.invokevirtual 131, 3) := by decide +kernel
theorem dX0_playCard_21 : decode cX0_playCard 21 = .ok (.istore_n 3, 1) := by decide +kernel
theorem dX0_playCard_22 : decode cX0_playCard 22 = .ok (.aload_n 0, 1) := by decide +kernel
theorem dX0_playCard_23 : decode cX0_playCard 23 = .ok (.getfield 34, 3) := by decide +kernel
theorem dX0_playCard_26 : decode cX0_playCard 26 = .ok (.invokevirtual 135, 3) := by decide +kernel
theorem dX0_playCard_29 : decode cX0_playCard 29 = .ok (.ifCond .ne 11, 3) := by decide +kernel
theorem dX0_playCard_32 : decode cX0_playCard 32 = .ok (.aload_n 2, 1) := by decide +kernel
theorem dX0_playCard_33 : decode cX0_playCard 33 = .ok (.getfield 139, 3) := by decide +kernel
theorem dX0_playCard_36 : decode cX0_playCard 36 = .ok (.iload_n 3, 1) := by decide +kernel
theorem dX0_playCard_37 : decode cX0_playCard 37 = .ok (.if_icmp .ge 5, 3) := by decide +kernel
theorem dX0_playCard_40 : decode cX0_playCard 40 = .ok (.iconst (-1), 1) := by decide +kernel
theorem dX0_playCard_41 : decode cX0_playCard 41 = .ok (.ireturn, 1) := by decide +kernel
theorem dX0_playCard_42 : decode cX0_playCard 42 = .ok (.aload_n 2, 1) := by decide +kernel
theorem dX0_playCard_43 : decode cX0_playCard 43 = .ok (.dup, 1) := by decide +kernel
theorem dX0_playCard_44 : decode cX0_playCard 44 = .ok (.getfield 139, 3) := by decide +kernel
theorem dX0_playCard_47 : decode cX0_playCard 47 = .ok (.iload_n 3, 1) := by decide +kernel
theorem dX0_playCard_48 : decode cX0_playCard 48 = .ok (.isub, 1) := by decide +kernel
theorem dX0_playCard_49 : decode cX0_playCard 49 = .ok (.putfield 139, 3) := by decide +kernel
theorem dX0_playCard_52 : decode cX0_playCard 52 = .ok (.aload_n 0, 1) := by decide +kernel
theorem dX0_playCard_53 : decode cX0_playCard 53 = .ok (.dup, 1) := by decide +kernel
theorem dX0_playCard_54 : decode cX0_playCard 54 = .ok (.getfield 81, 3) := by decide +kernel
theorem dX0_playCard_57 : decode cX0_playCard 57 = .ok (.iload_n 3, 1) := by decide +kernel
theorem dX0_playCard_58 : decode cX0_playCard 58 = .ok (.iadd, 1) := by decide +kernel
theorem dX0_playCard_59 : decode cX0_playCard 59 = .ok (.putfield 81, 3) := by decide +kernel
theorem dX0_playCard_62 : decode cX0_playCard 62 = .ok (.aload_n 0, 1) := by decide +kernel
theorem dX0_playCard_63 : decode cX0_playCard 63 = .ok (.getfield 31, 3) := by decide +kernel
theorem dX0_playCard_66 : decode cX0_playCard 66 = .ok (.aload_n 0, 1) := by decide +kernel
theorem dX0_playCard_67 : decode cX0_playCard 67 = .ok (.getfield 65, 3) := by decide +kernel
theorem dX0_playCard_70 : decode cX0_playCard 70 = .ok (.invokevirtual 142, 3) := by decide +kernel
theorem dX0_playCard_73 : decode cX0_playCard 73 = .ok (.aload_n 0, 1) := by decide +kernel
theorem dX0_playCard_74 : decode cX0_playCard 74 = .ok (.getfield 34, 3) := by decide +kernel
theorem dX0_playCard_77 : decode cX0_playCard 77 = .ok (.aload_n 2, 1) := by decide +kernel
theorem dX0_playCard_78 : decode cX0_playCard 78 = .ok (.getfield 114, 3) := by decide +kernel
theorem dX0_playCard_81 : decode cX0_playCard 81 = .ok (.iload_n 1, 1) := by decide +kernel
theorem dX0_playCard_82 : decode cX0_playCard 82 = .ok (.invokevirtual 94, 3) := by decide +kernel
theorem dX0_playCard_85 : decode cX0_playCard 85 = .ok (.invokevirtual 142, 3) := by decide +kernel
theorem dX0_playCard_88 : decode cX0_playCard 88 = .ok (.aload_n 0, 1) := by decide +kernel
theorem dX0_playCard_89 : decode cX0_playCard 89 = .ok (.getfield 37, 3) := by decide +kernel
theorem dX0_playCard_92 : decode cX0_playCard 92 = .ok (.iload_n 3, 1) := by decide +kernel
theorem dX0_playCard_93 : decode cX0_playCard 93 = .ok (.invokevirtual 142, 3) := by decide +kernel
theorem dX0_playCard_96 : decode cX0_playCard 96 = .ok (.aload_n 2, 1) := by decide +kernel
theorem dX0_playCard_97 : decode cX0_playCard 97 = .ok (.iload_n 1, 1) := by decide +kernel
theorem dX0_playCard_98 : decode cX0_playCard 98 = .ok (.invokevirtual 145, 3) := by decide +kernel
theorem dX0_playCard_101 : decode cX0_playCard 101 = .ok (.aload_n 0, 1) := by decide +kernel
theorem dX0_playCard_102 : decode cX0_playCard 102 = .ok (.aload_n 2, 1) := by decide +kernel
theorem dX0_playCard_103 : decode cX0_playCard 103 = .ok (.invokevirtual 148, 3) := by decide +kernel
theorem dX0_playCard_106 : decode cX0_playCard 106 = .ok (.ireturn, 1) := by decide +kernel
theorem dX0_cancelBid_0 : decode cX0_cancelBid 0 = .ok (.aload_n 0, 1) := by decide +kernel
theorem dX0_cancelBid_1 : decode cX0_cancelBid 1 = .ok (.aload_n 0, 1) := by decide +kernel
theorem dX0_cancelBid_2 : decode cX0_cancelBid 2 = .ok (.getfield 65, 3) := by decide +kernel
theorem dX0_cancelBid_5 : decode cX0_cancelBid 5 = .ok (.invokevirtual 127, 3) := by decide +kernel
theorem dX0_cancelBid_8 : decode cX0_cancelBid 8 = .ok (.astore_n 3, 1) := by decide +kernel
theorem dX0_cancelBid_9 : decode cX0_cancelBid 9 = .ok (.aload_n 0, 1) := by decide +kernel
theorem dX0_cancelBid_10 : decode cX0_cancelBid 10 = .ok (.aload_n 0, 1) := by decide +kernel
theorem dX0_cancelBid_11 : decode cX0_cancelBid 11 = .ok (.getfield 31, 3) := by decide +kernel
theorem dX0_cancelBid_14 : decode cX0_cancelBid 14 = .ok (.iload_n 2, 1) := by decide +kernel
theorem dX0_cancelBid_15 : decode cX0_cancelBid 15 = .ok (.invokevirtual 94, 3) := by decide +kernel
theorem dX0_cancelBid_18 : decode cX0_cancelBid 18 = .ok (.invokevirtual 127, 3) := by decide +kernel
theorem dX0_cancelBid_21 : decode cX0_cancelBid 21 = .ok (.astore 4, 2) := by decide +kernel
theorem dX0_cancelBid_23 : decode cX0_cancelBid 23 = .ok (.aload_n 3, 1) := by decide +kernel
theorem dX0_cancelBid_24 : decode cX0_cancelBid 24 = .ok (.ifnull 8, 3) := by decide +kernel
theorem dX0_cancelBid_27 : decode cX0_cancelBid 27 = .ok (.aload 4, 2) := by decide +kernel
theorem dX0_cancelBid_29 : decode cX0_cancelBid 29 = .ok (.ifnonnull 5, 3) := by decide +kernel
theorem dX0_cancelBid_32 : decode cX0_cancelBid 32 = .ok (.iconst (-1), 1) := by decide +kernel
theorem dX0_cancelBid_33 : decode cX0_cancelBid 33 = .ok (.ireturn, 1) := by decide +kernel
theorem dX0_cancelBid_34 : decode cX0_cancelBid 34 = .ok (.aload_n 0, 1) := by decide +kernel
theorem dX0_cancelBid_35 : decode cX0_cancelBid 35 = .ok (.aload_n 3, 1) := by decide +kernel
theorem dX0_cancelBid_36 : decode cX0_cancelBid 36 = .ok (.iload_n 1, 1) := by decide +kernel
theorem dX0_cancelBid_37 : decode cX0_cancelBid 37 = .ok (.invokevirtual 131, 3) := by decide +kernel
theorem dX0_cancelBid_40 : decode cX0_cancelBid 40 = .ok (.istore 5, 2) := by decide +kernel
theorem dX0_cancelBid_42 : decode cX0_cancelBid 42 = .ok (.aload_n 0, 1) := by decide +kernel
theorem dX0_cancelBid_43 : decode cX0_cancelBid 43 = .ok (.getfield 37, 3) := by decide +kernel
theorem dX0_cancelBid_46 : decode cX0_cancelBid 46 = .ok (.iload_n 2, 1) := by decide +kernel
theorem dX0_cancelBid_47 : decode cX0_cancelBid 47 = .ok (.invokevirtual 94, 3) := by decide +kernel
theorem dX0_cancelBid_50 : decode cX0_cancelBid 50 = .ok (.istore 6, 2) := by decide +kernel
theorem dX0_cancelBid_52 : decode cX0_cancelBid 52 = .ok (.aload_n 0, 1) := by decide +kernel
theorem dX0_cancelBid_53 : decode cX0_cancelBid 53 = .ok (.getfield 9, 3) := by decide +kernel
theorem dX0_cancelBid_56 : decode cX0_cancelBid 56 = .ok (.aload_n 3, 1) := by decide +kernel
theorem dX0_cancelBid_57 : decode cX0_cancelBid 57 = .ok (.getfield 114, 3) := by decide +kernel
theorem dX0_cancelBid_60 : decode cX0_cancelBid 60 = .ok (.iload_n 1, 1) := by decide +kernel
theorem dX0_cancelBid_61 : decode cX0_cancelBid 61 = .ok (.invokevirtual 94, 3) := by decide +kernel
theorem dX0_cancelBid_64 : decode cX0_cancelBid 64 = .ok (.aload_n 0, 1) := by decide +kernel
theorem dX0_cancelBid_65 : decode cX0_cancelBid 65 = .ok (.getfield 34, 3) := by decide +kernel
theorem dX0_cancelBid_68 : decode cX0_cancelBid 68 = .ok (.iload_n 2, 1) := by decide +kernel
theorem dX0_cancelBid_69 : decode cX0_cancelBid 69 = .ok (.invokevirtual 94, 3) := by decide +kernel
theorem dX0_cancelBid_72 : decode cX0_cancelBid 72 = .ok (.invokevirtual 98, 3) := by decide +kernel
theorem dX0_cancelBid_75 : decode cX0_cancelBid 75 = .ok (.ifCond .ne 7, 3) := by decide +kernel
theorem dX0_cancelBid_78 : decode cX0_cancelBid 78 = .ok (.iconst 1, 1) := by decide +kernel
theorem dX0_cancelBid_79 : decode cX0_cancelBid 79 = .ok (.goto 4, 3) := by decide +kernel
theorem dX0_cancelBid_82 : decode cX0_cancelBid 82 = .ok (.iconst 0, 1) := by decide +kernel
theorem dX0_cancelBid_83 : decode cX0_cancelBid 83 = .ok (.istore 7, 2) := by decide +kernel
theorem dX0_cancelBid_85 : decode cX0_cancelBid 85 = .ok (.iload 7, 2) := by decide +kernel
theorem dX0_cancelBid_87 : decode cX0_cancelBid 87 = .ok (.ifCond .eq 19, 3) := by decide +kernel
theorem dX0_cancelBid_90 : decode cX0_cancelBid 90 = .ok (.iload 5, 2) := by decide +kernel
theorem dX0_cancelBid_92 : decode cX0_cancelBid 92 = .ok (.iload 6, 2) := by decide +kernel
theorem dX0_cancelBid_94 : decode cX0_cancelBid 94 = .ok (.if_icmp .lt 12, 3) := by decide +kernel
theorem dX0_cancelBid_97 : decode cX0_cancelBid 97 = .ok (.aload_n 3, 1) := by decide +kernel
theorem dX0_cancelBid_98 : decode cX0_cancelBid 98 = .ok (.getfield 139, 3) := by decide +kernel
theorem dX0_cancelBid_101 : decode cX0_cancelBid 101 = .ok (.iload 5, 2) := by decide +kernel
theorem dX0_cancelBid_103 : decode cX0_cancelBid 103 = .ok (.if_icmp .ge 5, 3) := by decide +kernel
theorem dX0_cancelBid_106 : decode cX0_cancelBid 106 = .ok (.iconst (-1), 1) := by decide +kernel
theorem dX0_cancelBid_107 : decode cX0_cancelBid 107 = .ok (.ireturn, 1) := by decide +kernel
theorem dX0_cancelBid_108 : decode cX0_cancelBid 108 = .ok (.aload_n 3, 1) := by decide +kernel
theorem dX0_cancelBid_109 : decode cX0_cancelBid 109 = .ok (.dup, 1) := by decide +kernel
theorem dX0_cancelBid_110 : decode cX0_cancelBid 110 = .ok (.getfield 139, 3) := by decide +kernel
theorem dX0_cancelBid_113 : decode cX0_cancelBid 113 = .ok (.iload 5, 2) := by decide +kernel
theorem dX0_cancelBid_115 : decode cX0_cancelBid 115 = .ok (.isub, 1) := by decide +kernel
theorem dX0_cancelBid_116 : decode cX0_cancelBid 116 = .ok (.putfield 139, 3) := by decide +kernel
theorem dX0_cancelBid_119 : decode cX0_cancelBid 119 = .ok (.aload_n 0, 1) := by decide +kernel
theorem dX0_cancelBid_120 : decode cX0_cancelBid 120 = .ok (.dup, 1) := by decide +kernel
theorem dX0_cancelBid_121 : decode cX0_cancelBid 121 = .ok (.getfield 81, 3) := by decide +kernel
theorem dX0_cancelBid_124 : decode cX0_cancelBid 124 = .ok (.iload 5, 2) := by decide +kernel
theorem dX0_cancelBid_126 : decode cX0_cancelBid 126 = .ok (.iload 6, 2) := by decide +kernel
theorem dX0_cancelBid_128 : decode cX0_cancelBid 128 = .ok (.isub, 1) := by decide +kernel
theorem dX0_cancelBid_129 : decode cX0_cancelBid 129 = .ok (.iadd, 1) := by decide +kernel
theorem dX0_cancelBid_130 : decode cX0_cancelBid 130 = .ok (.putfield 81, 3) := by decide +kernel
theorem dX0_cancelBid_133 : decode cX0_cancelBid 133 = .ok (.aload 4, 2) := by decide +kernel
theorem dX0_cancelBid_135 : decode cX0_cancelBid 135 = .ok (.iload 6, 2) := by decide +kernel
theorem dX0_cancelBid_137 : decode cX0_cancelBid 137 = .ok (.invokevirtual 152, 3) := by decide +kernel
theorem dX0_cancelBid_140 : decode cX0_cancelBid 140 = .ok (.aload_n 0, 1) := by decide +kernel
theorem dX0_cancelBid_141 : decode cX0_cancelBid 141 = .ok (.getfield 31, 3) := by decide +kernel
theorem dX0_cancelBid_144 : decode cX0_cancelBid 144 = .ok (.iload_n 2, 1) := by decide +kernel
theorem dX0_cancelBid_145 : decode cX0_cancelBid 145 = .ok (.invokevirtual 155, 3) := by decide +kernel
theorem dX0_cancelBid_148 : decode cX0_cancelBid 148 = .ok (.aload_n 0, 1) := by decide +kernel
theorem dX0_cancelBid_149 : decode cX0_cancelBid 149 = .ok (.getfield 34, 3) := by decide +kernel
theorem dX0_cancelBid_152 : decode cX0_cancelBid 152 = .ok (.iload_n 2, 1) := by decide +kernel
theorem dX0_cancelBid_153 : decode cX0_cancelBid 153 = .ok (.invokevirtual 155, 3) := by decide +kernel
theorem dX0_cancelBid_156 : decode cX0_cancelBid 156 = .ok (.aload_n 0, 1) := by decide +kernel
theorem dX0_cancelBid_157 : decode cX0_cancelBid 157 = .ok (.getfield 37, 3) := by decide +kernel
theorem dX0_cancelBid_160 : decode cX0_cancelBid 160 = .ok (.iload_n 2, 1) := by decide +kernel
theorem dX0_cancelBid_161 : decode cX0_cancelBid 161 = .ok (.invokevirtual 155, 3) := by decide +kernel
theorem dX0_cancelBid_164 : decode cX0_cancelBid 164 = .ok (.aload_n 3, 1) := by decide +kernel
theorem dX0_cancelBid_165 : decode cX0_cancelBid 165 = .ok (.iload_n 1, 1) := by decide +kernel
theorem dX0_cancelBid_166 : decode cX0_cancelBid 166 = .ok (.invokevirtual 145, 3) := by decide +kernel
theorem dX0_cancelBid_169 : decode cX0_cancelBid 169 = .ok (.aload_n 0, 1) := by decide +kernel
theorem dX0_cancelBid_170 : decode cX0_cancelBid 170 = .ok (.aload_n 3, 1) := by decide +kernel
theorem dX0_cancelBid_171 : decode cX0_cancelBid 171 = .ok (.invokevirtual 148, 3) := by decide +kernel
theorem dX0_cancelBid_174 : decode cX0_cancelBid 174 = .ok (.ireturn, 1) := by decide +kernel
theorem dX0_passTurn_0 : decode cX0_passTurn 0 = .ok (.aload_n 0, 1) := by decide +kernel
theorem dX0_passTurn_1 : decode cX0_passTurn 1 = .ok (.dup, 1) := by decide +kernel
theorem dX0_passTurn_2 : decode cX0_passTurn 2 = .ok (.getfield 84, 3) := by decide +kernel
theorem dX0_passTurn_5 : decode cX0_passTurn 5 = .ok (.iconst 1, 1) := by decide +kernel
theorem dX0_passTurn_6 : decode cX0_passTurn 6 = .ok (.iadd, 1) := by decide +kernel
theorem dX0_passTurn_7 : decode cX0_passTurn 7 = .ok (.putfield 84, 3) := by decide +kernel
theorem dX0_passTurn_10 : decode cX0_passTurn 10 = .ok (.aload_n 0, 1) := by decide +kernel
theorem dX0_passTurn_11 : decode cX0_passTurn 11 = .ok (.getfield 84, 3) := by decide +kernel
theorem dX0_passTurn_14 : decode cX0_passTurn 14 = .ok (.aload_n 0, 1) := by decide +kernel
theorem dX0_passTurn_15 : decode cX0_passTurn 15 = .ok (.getfield 56, 3) := by decide +kernel
theorem dX0_passTurn_18 : decode cX0_passTurn 18 = .ok (.if_icmp .ne 7, 3) := by decide +kernel
theorem dX0_passTurn_21 : decode cX0_passTurn 21 = .ok (.iconst 1, 1) := by decide +kernel
theorem dX0_passTurn_22 : decode cX0_passTurn 22 = .ok (.goto 4, 3) := by decide +kernel
theorem dX0_passTurn_25 : decode cX0_passTurn 25 = .ok (.iconst 0, 1) := by decide +kernel
theorem dX0_passTurn_26 : decode cX0_passTurn 26 = .ok (.istore_n 1, 1) := by decide +kernel
theorem dX0_passTurn_27 : decode cX0_passTurn 27 = .ok (.iload_n 1, 1) := by decide +kernel
theorem dX0_passTurn_28 : decode cX0_passTurn 28 = .ok (.ifCond .eq 20, 3) := by decide +kernel
theorem dX0_passTurn_31 : decode cX0_passTurn 31 = .ok (.aload_n 0, 1) := by decide +kernel
theorem dX0_passTurn_32 : decode cX0_passTurn 32 = .ok (.dup, 1) := by decide +kernel
theorem dX0_passTurn_33 : decode cX0_passTurn 33 = .ok (.getfield 68, 3) := by decide +kernel
theorem dX0_passTurn_36 : decode cX0_passTurn 36 = .ok (.aload_n 0, 1) := by decide +kernel
theorem dX0_passTurn_37 : decode cX0_passTurn 37 = .ok (.getfield 81, 3) := by decide +kernel
theorem dX0_passTurn_40 : decode cX0_passTurn 40 = .ok (.iadd, 1) := by decide +kernel
theorem dX0_passTurn_41 : decode cX0_passTurn 41 = .ok (.putfield 68, 3) := by decide +kernel
theorem dX0_passTurn_44 : decode cX0_passTurn 44 = .ok (.aload_n 0, 1) := by decide +kernel
theorem dX0_passTurn_45 : decode cX0_passTurn 45 = .ok (.invokevirtual 158, 3) := by decide +kernel
theorem dX0_passTurn_48 : decode cX0_passTurn 48 = .ok (.aload_n 0, 1) := by decide +kernel
theorem dX0_passTurn_49 : decode cX0_passTurn 49 = .ok (.invokevirtual 161, 3) := by decide +kernel
theorem dX0_passTurn_52 : decode cX0_passTurn 52 = .ok (.iload_n 1, 1) := by decide +kernel
theorem dX0_passTurn_53 : decode cX0_passTurn 53 = .ok (.ifCond .eq 7, 3) := by decide +kernel
theorem dX0_passTurn_56 : decode cX0_passTurn 56 = .ok (.iconst 1, 1) := by decide +kernel
theorem dX0_passTurn_57 : decode cX0_passTurn 57 = .ok (.goto 4, 3) := by decide +kernel
theorem dX0_passTurn_60 : decode cX0_passTurn 60 = .ok (.iconst 0, 1) := by decide +kernel
theorem dX0_passTurn_61 : decode cX0_passTurn 61 = .ok (.ireturn, 1) := by decide +kernel
theorem dX0_endMove_0 : decode cX0_endMove 0 = .ok (.aload_n 0, 1) := by decide +kernel
theorem dX0_endMove_1 : decode cX0_endMove 1 = .ok (.iconst 0, 1) := by decide +kernel
theorem dX0_endMove_2 : decode cX0_endMove 2 = .ok (.putfield 84, 3) := by decide +kernel
theorem dX0_endMove_5 : decode cX0_endMove 5 = .ok (.aload_n 0, 1) := by decide +kernel
theorem dX0_endMove_6 : decode cX0_endMove 6 = .ok (.getfield 34, 3) := by decide +kernel
theorem dX0_endMove_9 : decode cX0_endMove 9 = .ok (.invokevirtual 104, 3) := by decide +kernel
theorem dX0_endMove_12 : decode cX0_endMove 12 = .ok (.istore_n 2, 1) := by decide +kernel
theorem dX0_endMove_13 : decode cX0_endMove 13 = .ok (.iload_n 2, 1) := by decide +kernel
theorem dX0_endMove_14 : decode cX0_endMove 14 = .ok (.ifCond .le 16, 3) := by decide +kernel
theorem dX0_endMove_17 : decode cX0_endMove 17 = .ok (.aload_n 0, 1) := by decide +kernel
theorem dX0_endMove_18 : decode cX0_endMove 18 = .ok (.iconst 0, 1) := by decide +kernel
theorem dX0_endMove_19 : decode cX0_endMove 19 = .ok (.iload_n 2, 1) := by decide +kernel
theorem dX0_endMove_20 : decode cX0_endMove 20 = .ok (.invokevirtual 108, 3) := by decide +kernel
theorem dX0_endMove_23 : decode cX0_endMove 23 = .ok (.ifCond .ne 7, 3) := by decide +kernel
theorem dX0_endMove_26 : decode cX0_endMove 26 = .ok (.iconst 1, 1) := by decide +kernel
theorem dX0_endMove_27 : decode cX0_endMove 27 = .ok (.goto 4, 3) := by decide +kernel
theorem dX0_endMove_30 : decode cX0_endMove 30 = .ok (.iconst 0, 1) := by decide +kernel
theorem dX0_endMove_31 : decode cX0_endMove 31 = .ok (.istore_n 3, 1) := by decide +kernel
theorem dX0_endMove_32 : decode cX0_endMove 32 = .ok (.iload_n 3, 1) := by decide +kernel
theorem dX0_endMove_33 : decode cX0_endMove 33 = .ok (.ifCond .eq 37, 3) := by decide +kernel
theorem dX0_endMove_36 : decode cX0_endMove 36 = .ok (.aload_n 1, 1) := by decide +kernel
theorem dX0_endMove_37 : decode cX0_endMove 37 = .ok (.aload_n 0, 1) := by decide +kernel
theorem dX0_endMove_38 : decode cX0_endMove 38 = .ok (.getfield 27, 3) := by decide +kernel
theorem dX0_endMove_41 : decode cX0_endMove 41 = .ok (.aload_n 0, 1) := by decide +kernel
theorem dX0_endMove_42 : decode cX0_endMove 42 = .ok (.getfield 62, 3) := by decide +kernel
theorem dX0_endMove_45 : decode cX0_endMove 45 = .ok (.invokevirtual 94, 3) := by decide +kernel
theorem dX0_endMove_48 : decode cX0_endMove 48 = .ok (.aload_n 0, 1) := by decide +kernel
theorem dX0_endMove_49 : decode cX0_endMove 49 = .ok (.getfield 81, 3) := by decide +kernel
theorem dX0_endMove_52 : decode cX0_endMove 52 = .ok (.iadd, 1) := by decide +kernel
theorem dX0_endMove_53 : decode cX0_endMove 53 = .ok (.invokevirtual 152, 3) := by decide +kernel
theorem dX0_endMove_56 : decode cX0_endMove 56 = .ok (.aload_n 1, 1) := by decide +kernel
theorem dX0_endMove_57 : decode cX0_endMove 57 = .ok (.dup, 1) := by decide +kernel
theorem dX0_endMove_58 : decode cX0_endMove 58 = .ok (.getfield 164, 3) := by decide +kernel
theorem dX0_endMove_61 : decode cX0_endMove 61 = .ok (.iconst 1, 1) := by decide +kernel
theorem dX0_endMove_62 : decode cX0_endMove 62 = .ok (.iadd, 1) := by decide +kernel
theorem dX0_endMove_63 : decode cX0_endMove 63 = .ok (.putfield 164, 3) := by decide +kernel
theorem dX0_endMove_66 : decode cX0_endMove 66 = .ok (.aload_n 0, 1) := by decide +kernel
theorem dX0_endMove_67 : decode cX0_endMove 67 = .ok (.invokevirtual 158, 3) := by decide +kernel
theorem dX0_endMove_70 : decode cX0_endMove 70 = .ok (.aload_n 0, 1) := by decide +kernel
theorem dX0_endMove_71 : decode cX0_endMove 71 = .ok (.invokevirtual 161, 3) := by decide +kernel
theorem dX0_endMove_74 : decode cX0_endMove 74 = .ok (.iload_n 3, 1) := by decide +kernel
theorem dX0_endMove_75 : decode cX0_endMove 75 = .ok (.ifCond .eq 7, 3) := by decide +kernel
theorem dX0_endMove_78 : decode cX0_endMove 78 = .ok (.iconst 1, 1) := by decide +kernel
theorem dX0_endMove_79 : decode cX0_endMove 79 = .ok (.goto 4, 3) := by decide +kernel
theorem dX0_endMove_82 : decode cX0_endMove 82 = .ok (.iconst 0, 1) := by decide +kernel
theorem dX0_endMove_83 : decode cX0_endMove 83 = .ok (.ireturn, 1) := by decide +kernel
theorem dX0_openNextLot_0 : decode cX0_openNextLot 0 = .ok (.aload_n 0, 1) := by decide +kernel
theorem dX0_openNextLot_1 : decode cX0_openNextLot 1 = .ok (.dup, 1) := by decide +kernel
theorem dX0_openNextLot_2 : decode cX0_openNextLot 2 = .ok (.getfield 62, 3) := by decide +kernel
theorem dX0_openNextLot_5 : decode cX0_openNextLot 5 = .ok (.iconst 1, 1) := by decide +kernel
theorem dX0_openNextLot_6 : decode cX0_openNextLot 6 = .ok (.iadd, 1) := by decide +kernel
theorem dX0_openNextLot_7 : decode cX0_openNextLot 7 = .ok (.putfield 62, 3) := by decide +kernel
theorem dX0_openNextLot_10 : decode cX0_openNextLot 10 = .ok (.aload_n 0, 1) := by decide +kernel
theorem dX0_openNextLot_11 : decode cX0_openNextLot 11 = .ok (.invokevirtual 71, 3) := by decide +kernel
theorem dX0_openNextLot_14 : decode cX0_openNextLot 14 = .ok (.return_, 1) := by decide +kernel
theorem dX0_clearLot_0 : decode cX0_clearLot 0 = .ok (.aload_n 0, 1) := by decide +kernel
theorem dX0_clearLot_1 : decode cX0_clearLot 1 = .ok (.getfield 31, 3) := by decide +kernel
theorem dX0_clearLot_4 : decode cX0_clearLot 4 = .ok (.invokevirtual 59, 3) := by decide +kernel
theorem dX0_clearLot_7 : decode cX0_clearLot 7 = .ok (.aload_n 0, 1) := by decide +kernel
theorem dX0_clearLot_8 : decode cX0_clearLot 8 = .ok (.getfield 34, 3) := by decide +kernel
theorem dX0_clearLot_11 : decode cX0_clearLot 11 = .ok (.invokevirtual 59, 3) := by decide +kernel
theorem dX0_clearLot_14 : decode cX0_clearLot 14 = .ok (.aload_n 0, 1) := by decide +kernel
theorem dX0_clearLot_15 : decode cX0_clearLot 15 = .ok (.getfield 37, 3) := by decide +kernel
theorem dX0_clearLot_18 : decode cX0_clearLot 18 = .ok (.invokevirtual 59, 3) := by decide +kernel
theorem dX0_clearLot_21 : decode cX0_clearLot 21 = .ok (.aload_n 0, 1) := by decide +kernel
theorem dX0_clearLot_22 : decode cX0_clearLot 22 = .ok (.iconst 0, 1) := by decide +kernel
theorem dX0_clearLot_23 : decode cX0_clearLot 23 = .ok (.putfield 81, 3) := by decide +kernel
theorem dX0_clearLot_26 : decode cX0_clearLot 26 = .ok (.aload_n 0, 1) := by decide +kernel
theorem dX0_clearLot_27 : decode cX0_clearLot 27 = .ok (.iconst 0, 1) := by decide +kernel
theorem dX0_clearLot_28 : decode cX0_clearLot 28 = .ok (.putfield 84, 3) := by decide +kernel
theorem dX0_clearLot_31 : decode cX0_clearLot 31 = .ok (.return_, 1) := by decide +kernel
theorem dX0_turnToNext_0 : decode cX0_turnToNext 0 = .ok (.aload_n 0, 1) := by decide +kernel
theorem dX0_turnToNext_1 : decode cX0_turnToNext 1 = .ok (.aload_n 0, 1) := by decide +kernel
theorem dX0_turnToNext_2 : decode cX0_turnToNext 2 = .ok (.getfield 65, 3) := by decide +kernel
theorem dX0_turnToNext_5 : decode cX0_turnToNext 5 = .ok (.iconst 1, 1) := by decide +kernel
theorem dX0_turnToNext_6 : decode cX0_turnToNext 6 = .ok (.iadd, 1) := by decide +kernel
theorem dX0_turnToNext_7 : decode cX0_turnToNext 7 = .ok (.aload_n 0, 1) := by decide +kernel
theorem dX0_turnToNext_8 : decode cX0_turnToNext 8 = .ok (.getfield 56, 3) := by decide +kernel
theorem dX0_turnToNext_11 : decode cX0_turnToNext 11 = .ok (.if_icmp .ge 12, 3) := by decide +kernel
theorem dX0_turnToNext_14 : decode cX0_turnToNext 14 = .ok (.aload_n 0, 1) := by decide +kernel
theorem dX0_turnToNext_15 : decode cX0_turnToNext 15 = .ok (.getfield 65, 3) := by decide +kernel
theorem dX0_turnToNext_18 : decode cX0_turnToNext 18 = .ok (.iconst 1, 1) := by decide +kernel
theorem dX0_turnToNext_19 : decode cX0_turnToNext 19 = .ok (.iadd, 1) := by decide +kernel
theorem dX0_turnToNext_20 : decode cX0_turnToNext 20 = .ok (.goto 4, 3) := by decide +kernel
theorem dX0_turnToNext_23 : decode cX0_turnToNext 23 = .ok (.iconst 0, 1) := by decide +kernel
theorem dX0_turnToNext_24 : decode cX0_turnToNext 24 = .ok (.putfield 65, 3) := by decide +kernel
theorem dX0_turnToNext_27 : decode cX0_turnToNext 27 = .ok (.return_, 1) := by decide +kernel
theorem dX1_init_0 : decode cX1_init 0 = .ok (.aload_n 0, 1) := by decide +kernel
theorem dX1_init_1 : decode cX1_init 1 = .ok (.invokespecial 3, 3) := by decide +kernel
theorem dX1_init_4 : decode cX1_init 4 = .ok (.aload_n 0, 1) := by decide +kernel
theorem dX1_init_5 : decode cX1_init 5 = .ok (.new 9, 3) := by decide +kernel
theorem dX1_init_8 : decode cX1_init 8 = .ok (.dup, 1) := by decide +kernel
theorem dX1_init_9 : decode cX1_init 9 = .ok (.bipush 8, 2) := by decide +kernel
theorem dX1_init_11 : decode cX1_init 11 = .ok (.invokespecial 11, 3) := by decide +kernel
theorem dX1_init_14 : decode cX1_init 14 = .ok (.putfield 14, 3) := by decide +kernel
theorem dX1_init_17 : decode cX1_init 17 = .ok (.aload_n 0, 1) := by decide +kernel
theorem dX1_init_18 : decode cX1_init 18 = .ok (.new 9, 3) := by decide +kernel
theorem dX1_init_21 : decode cX1_init 21 = .ok (.dup, 1) := by decide +kernel
theorem dX1_init_22 : decode cX1_init 22 = .ok (.bipush 8, 2) := by decide +kernel
theorem dX1_init_24 : decode cX1_init 24 = .ok (.invokespecial 11, 3) := by decide +kernel
theorem dX1_init_27 : decode cX1_init 27 = .ok (.putfield 20, 3) := by decide +kernel
theorem dX1_init_30 : decode cX1_init 30 = .ok (.return_, 1) := by decide +kernel
theorem dX1_start_0 : decode cX1_start 0 = .ok (.aload_n 0, 1) := by decide +kernel
theorem dX1_start_1 : decode cX1_start 1 = .ok (.iload_n 1, 1) := by decide +kernel
theorem dX1_start_2 : decode cX1_start 2 = .ok (.putfield 23, 3) := by decide +kernel
theorem dX1_start_5 : decode cX1_start 5 = .ok (.aload_n 0, 1) := by decide +kernel
theorem dX1_start_6 : decode cX1_start 6 = .ok (.iconst 0, 1) := by decide +kernel
theorem dX1_start_7 : decode cX1_start 7 = .ok (.putfield 27, 3) := by decide +kernel
theorem dX1_start_10 : decode cX1_start 10 = .ok (.aload_n 0, 1) := by decide +kernel
theorem dX1_start_11 : decode cX1_start 11 = .ok (.getfield 14, 3) := by decide +kernel
theorem dX1_start_14 : decode cX1_start 14 = .ok (.invokevirtual 30, 3) := by decide +kernel
theorem dX1_start_17 : decode cX1_start 17 = .ok (.aload_n 0, 1) := by decide +kernel
theorem dX1_start_18 : decode cX1_start 18 = .ok (.getfield 20, 3) := by decide +kernel
theorem dX1_start_21 : decode cX1_start 21 = .ok (.invokevirtual 30, 3) := by decide +kernel
theorem dX1_start_24 : decode cX1_start 24 = .ok (.return_, 1) := by decide +kernel
theorem dX1_copyFrom_0 : decode cX1_copyFrom 0 = .ok (.aload_n 0, 1) := by decide +kernel
theorem dX1_copyFrom_1 : decode cX1_copyFrom 1 = .ok (.aload_n 1, 1) := by decide +kernel
theorem dX1_copyFrom_2 : decode cX1_copyFrom 2 = .ok (.getfield 23, 3) := by decide +kernel
theorem dX1_copyFrom_5 : decode cX1_copyFrom 5 = .ok (.putfield 23, 3) := by decide +kernel
theorem dX1_copyFrom_8 : decode cX1_copyFrom 8 = .ok (.aload_n 0, 1) := by decide +kernel
theorem dX1_copyFrom_9 : decode cX1_copyFrom 9 = .ok (.aload_n 1, 1) := by decide +kernel
theorem dX1_copyFrom_10 : decode cX1_copyFrom 10 = .ok (.getfield 27, 3) := by decide +kernel
theorem dX1_copyFrom_13 : decode cX1_copyFrom 13 = .ok (.putfield 27, 3) := by decide +kernel
theorem dX1_copyFrom_16 : decode cX1_copyFrom 16 = .ok (.aload_n 0, 1) := by decide +kernel
theorem dX1_copyFrom_17 : decode cX1_copyFrom 17 = .ok (.getfield 14, 3) := by decide +kernel
theorem dX1_copyFrom_20 : decode cX1_copyFrom 20 = .ok (.aload_n 1, 1) := by decide +kernel
theorem dX1_copyFrom_21 : decode cX1_copyFrom 21 = .ok (.getfield 14, 3) := by decide +kernel
theorem dX1_copyFrom_24 : decode cX1_copyFrom 24 = .ok (.invokevirtual 33, 3) := by decide +kernel
theorem dX1_copyFrom_27 : decode cX1_copyFrom 27 = .ok (.aload_n 0, 1) := by decide +kernel
theorem dX1_copyFrom_28 : decode cX1_copyFrom 28 = .ok (.getfield 20, 3) := by decide +kernel
theorem dX1_copyFrom_31 : decode cX1_copyFrom 31 = .ok (.aload_n 1, 1) := by decide +kernel
theorem dX1_copyFrom_32 : decode cX1_copyFrom 32 = .ok (.getfield 20, 3) := by decide +kernel
theorem dX1_copyFrom_35 : decode cX1_copyFrom 35 = .ok (.invokevirtual 33, 3) := by decide +kernel
theorem dX1_copyFrom_38 : decode cX1_copyFrom 38 = .ok (.return_, 1) := by decide +kernel
theorem dX1_takeCard_0 : decode cX1_takeCard 0 = .ok (.aload_n 0, 1) := by decide +kernel
theorem dX1_takeCard_1 : decode cX1_takeCard 1 = .ok (.getfield 14, 3) := by decide +kernel
theorem dX1_takeCard_4 : decode cX1_takeCard 4 = .ok (.iload_n 1, 1) := by decide +kernel
theorem dX1_takeCard_5 : decode cX1_takeCard 5 = .ok (.invokevirtual 37, 3) := by decide +kernel
theorem dX1_takeCard_8 : decode cX1_takeCard 8 = .ok (.aload_n 0, 1) := by decide +kernel
theorem dX1_takeCard_9 : decode cX1_takeCard 9 = .ok (.getfield 20, 3) := by decide +kernel
theorem dX1_takeCard_12 : decode cX1_takeCard 12 = .ok (.iload_n 2, 1) := by decide +kernel
theorem dX1_takeCard_13 : decode cX1_takeCard 13 = .ok (.invokevirtual 37, 3) := by decide +kernel
theorem dX1_takeCard_16 : decode cX1_takeCard 16 = .ok (.return_, 1) := by decide +kernel
theorem dX1_dropCard_0 : decode cX1_dropCard 0 = .ok (.aload_n 0, 1) := by decide +kernel
theorem dX1_dropCard_1 : decode cX1_dropCard 1 = .ok (.getfield 14, 3) := by decide +kernel
theorem dX1_dropCard_4 : decode cX1_dropCard 4 = .ok (.iload_n 1, 1) := by decide +kernel
theorem dX1_dropCard_5 : decode cX1_dropCard 5 = .ok (.invokevirtual 40, 3) := by decide +kernel
theorem dX1_dropCard_8 : decode cX1_dropCard 8 = .ok (.aload_n 0, 1) := by decide +kernel
theorem dX1_dropCard_9 : decode cX1_dropCard 9 = .ok (.getfield 20, 3) := by decide +kernel
theorem dX1_dropCard_12 : decode cX1_dropCard 12 = .ok (.iload_n 1, 1) := by decide +kernel
theorem dX1_dropCard_13 : decode cX1_dropCard 13 = .ok (.invokevirtual 40, 3) := by decide +kernel
theorem dX1_dropCard_16 : decode cX1_dropCard 16 = .ok (.return_, 1) := by decide +kernel
theorem dX1_receive_0 : decode cX1_receive 0 = .ok (.aload_n 0, 1) := by decide +kernel
theorem dX1_receive_1 : decode cX1_receive 1 = .ok (.iconst 0, 1) := by decide +kernel
theorem dX1_receive_2 : decode cX1_receive 2 = .ok (.ldc 43, 2) := by decide +kernel
theorem dX1_receive_4 : decode cX1_receive 4 = .ok (.aload_n 0, 1) := by decide +kernel
theorem dX1_receive_5 : decode cX1_receive 5 = .ok (.getfield 23, 3) := by decide +kernel
theorem dX1_receive_8 : decode cX1_receive 8 = .ok (.iload_n 1, 1) := by decide +kernel
theorem dX1_receive_9 : decode cX1_receive 9 = .ok (.iadd, 1) := by decide +kernel
theorem dX1_receive_10 : decode cX1_receive 10 = .ok (.invokestatic 44, 3) := by decide +kernel
theorem dX1_receive_13 : decode cX1_receive 13 = .ok (.invokestatic 50, 3) := by decide +kernel
theorem dX1_receive_16 : decode cX1_receive 16 = .ok (.putfield 23, 3) := by decide +kernel
theorem dX1_receive_19 : decode cX1_receive 19 = .ok (.return_, 1) := by decide +kernel
theorem dX2_init_0 : decode cX2_init 0 = .ok (.aload_n 0, 1) := by decide +kernel
theorem dX2_init_1 : decode cX2_init 1 = .ok (.invokespecial 3, 3) := by decide +kernel
theorem dX2_init_4 : decode cX2_init 4 = .ok (.aload_n 0, 1) := by decide +kernel
theorem dX2_init_5 : decode cX2_init 5 = .ok (.sipush 600, 3) := by decide +kernel
theorem dX2_init_8 : decode cX2_init 8 = .ok (.newarray .int, 2) := by decide +kernel
theorem dX2_init_10 : decode cX2_init 10 = .ok (.putfield 9, 3) := by decide +kernel
theorem dX2_init_13 : decode cX2_init 13 = .ok (.aload_n 0, 1) := by decide +kernel
theorem dX2_init_14 : decode cX2_init 14 = .ok (.sipush 625, 3) := by decide +kernel
theorem dX2_init_17 : decode cX2_init 17 = .ok (.newarray .int, 2) := by decide +kernel
theorem dX2_init_19 : decode cX2_init 19 = .ok (.putfield 15, 3) := by decide +kernel
theorem dX2_init_22 : decode cX2_init 22 = .ok (.iconst 0, 1) := by decide +kernel
theorem dX2_init_23 : decode cX2_init 23 = .ok (.istore_n 1, 1) := by decide +kernel
theorem dX2_init_24 : decode cX2_init 24 = .ok (.iconst 0, 1) := by decide +kernel
theorem dX2_init_25 : decode cX2_init 25 = .ok (.istore_n 2, 1) := by decide +kernel
theorem dX2_init_26 : decode cX2_init 26 = .ok (.iload_n 2, 1) := by decide +kernel
theorem dX2_init_27 : decode cX2_init 27 = .ok (.sipush 625, 3) := by decide +kernel
theorem dX2_init_30 : decode cX2_init 30 = .ok (.if_icmp .ge 151, 3) := by decide +kernel
theorem dX2_init_33 : decode cX2_init 33 = .ok (.iload_n 1, 1) := by decide +kernel
theorem dX2_init_34 : decode cX2_init 34 = .ok (.bipush 120, 2) := by decide +kernel
theorem dX2_init_36 : decode cX2_init 36 = .ok (.if_icmp .ge 145, 3) := by decide +kernel
theorem dX2_init_39 : decode cX2_init 39 = .ok (.iconst 4, 1) := by decide +kernel
theorem dX2_init_40 : decode cX2_init 40 = .ok (.iload_n 2, 1) := by decide +kernel
theorem dX2_init_41 : decode cX2_init 41 = .ok (.bipush 125, 2) := by decide +kernel
theorem dX2_init_43 : decode cX2_init 43 = .ok (.idiv, 1) := by decide +kernel
theorem dX2_init_44 : decode cX2_init 44 = .ok (.isub, 1) := by decide +kernel
theorem dX2_init_45 : decode cX2_init 45 = .ok (.istore_n 3, 1) := by decide +kernel
theorem dX2_init_46 : decode cX2_init 46 = .ok (.iconst 4, 1) := by decide +kernel
theorem dX2_init_47 : decode cX2_init 47 = .ok (.iload_n 2, 1) := by decide +kernel
theorem dX2_init_48 : decode cX2_init 48 = .ok (.bipush 25, 2) := by decide +kernel
theorem dX2_init_50 : decode cX2_init 50 = .ok (.idiv, 1) := by decide +kernel
theorem dX2_init_51 : decode cX2_init 51 = .ok (.iconst 5, 1) := by decide +kernel
theorem dX2_init_52 : decode cX2_init 52 = .ok (.irem, 1) := by decide +kernel
theorem dX2_init_53 : decode cX2_init 53 = .ok (.isub, 1) := by decide +kernel
theorem dX2_init_54 : decode cX2_init 54 = .ok (.istore 4, 2) := by decide +kernel
theorem dX2_init_56 : decode cX2_init 56 = .ok (.iconst 4, 1) := by decide +kernel
theorem dX2_init_57 : decode cX2_init 57 = .ok (.iload_n 2, 1) := by decide +kernel
theorem dX2_init_58 : decode cX2_init 58 = .ok (.iconst 5, 1) := by decide +kernel
theorem dX2_init_59 : decode cX2_init 59 = .ok (.idiv, 1) := by decide +kernel
theorem dX2_init_60 : decode cX2_init 60 = .ok (.iconst 5, 1) := by decide +kernel
theorem dX2_init_61 : decode cX2_init 61 = .ok (.irem, 1) := by decide +kernel
theorem dX2_init_62 : decode cX2_init 62 = .ok (.isub, 1) := by decide +kernel
theorem dX2_init_63 : decode cX2_init 63 = .ok (.istore 5, 2) := by decide +kernel
theorem dX2_init_65 : decode cX2_init 65 = .ok (.iconst 4, 1) := by decide +kernel
theorem dX2_init_66 : decode cX2_init 66 = .ok (.iload_n 2, 1) := by decide +kernel
theorem dX2_init_67 : decode cX2_init 67 = .ok (.iconst 5, 1) := by decide +kernel
theorem dX2_init_68 : decode cX2_init 68 = .ok (.irem, 1) := by decide +kernel
theorem dX2_init_69 : decode cX2_init 69 = .ok (.isub, 1) := by decide +kernel
theorem dX2_init_70 : decode cX2_init 70 = .ok (.istore 6, 2) := by decide +kernel
theorem dX2_init_72 : decode cX2_init 72 = .ok (.iconst 1, 1) := by decide +kernel
theorem dX2_init_73 : decode cX2_init 73 = .ok (.iload_n 3, 1) := by decide +kernel
theorem dX2_init_74 : decode cX2_init 74 = .ok (.ishl, 1) := by decide +kernel
theorem dX2_init_75 : decode cX2_init 75 = .ok (.iconst 1, 1) := by decide +kernel
theorem dX2_init_76 : decode cX2_init 76 = .ok (.iload 4, 2) := by decide +kernel
theorem dX2_init_78 : decode cX2_init 78 = .ok (.ishl, 1) := by decide +kernel
theorem dX2_init_79 : decode cX2_init 79 = .ok (.ior, 1) := by decide +kernel
theorem dX2_init_80 : decode cX2_init 80 = .ok (.iconst 1, 1) := by decide +kernel
theorem dX2_init_81 : decode cX2_init 81 = .ok (.iload 5, 2) := by decide +kernel
theorem dX2_init_83 : decode cX2_init 83 = .ok (.ishl, 1) := by decide +kernel
theorem dX2_init_84 : decode cX2_init 84 = .ok (.ior, 1) := by decide +kernel
theorem dX2_init_85 : decode cX2_init 85 = .ok (.iconst 1, 1) := by decide +kernel
theorem dX2_init_86 : decode cX2_init 86 = .ok (.iload 6, 2) := by decide +kernel
theorem dX2_init_88 : decode cX2_init 88 = .ok (.ishl, 1) := by decide +kernel
theorem dX2_init_89 : decode cX2_init 89 = .ok (.ior, 1) := by decide +kernel
theorem dX2_init_90 : decode cX2_init 90 = .ok (.invokestatic 18, 3) := by decide +kernel
theorem dX2_init_93 : decode cX2_init 93 = .ok (.iconst 4, 1) := by decide +kernel
theorem dX2_init_94 : decode cX2_init 94 = .ok (.if_icmp .ne 81, 3) := by decide +kernel
theorem dX2_init_97 : decode cX2_init 97 = .ok (.iload_n 1, 1) := by decide +kernel
theorem dX2_init_98 : decode cX2_init 98 = .ok (.iconst 5, 1) := by decide +kernel
theorem dX2_init_99 : decode cX2_init 99 = .ok (.imul, 1) := by decide +kernel
theorem dX2_init_100 : decode cX2_init 100 = .ok (.istore 7, 2) := by decide +kernel
theorem dX2_init_102 : decode cX2_init 102 = .ok (.aload_n 0, 1) := by decide +kernel
theorem dX2_init_103 : decode cX2_init 103 = .ok (.getfield 9, 3) := by decide +kernel
theorem dX2_init_106 : decode cX2_init 106 = .ok (.iload 7, 2) := by decide +kernel
theorem dX2_init_108 : decode cX2_init 108 = .ok (.bipush 10, 2) := by decide +kernel
theorem dX2_init_110 : decode cX2_init 110 = .ok (.iload_n 3, 1) := by decide +kernel
theorem dX2_init_111 : decode cX2_init 111 = .ok (.isub, 1) := by decide +kernel
theorem dX2_init_112 : decode cX2_init 112 = .ok (.iload 4, 2) := by decide +kernel
theorem dX2_init_114 : decode cX2_init 114 = .ok (.isub, 1) := by decide +kernel
theorem dX2_init_115 : decode cX2_init 115 = .ok (.iload 5, 2) := by decide +kernel
theorem dX2_init_117 : decode cX2_init 117 = .ok (.isub, 1) := by decide +kernel
theorem dX2_init_118 : decode cX2_init 118 = .ok (.iload 6, 2) := by decide +kernel
theorem dX2_init_120 : decode cX2_init 120 = .ok (.isub, 1) := by decide +kernel
theorem dX2_init_121 : decode cX2_init 121 = .ok (.iastore, 1) := by decide +kernel
theorem dX2_init_122 : decode cX2_init 122 = .ok (.aload_n 0, 1) := by decide +kernel
theorem dX2_init_123 : decode cX2_init 123 = .ok (.getfield 9, 3) := by decide +kernel
theorem dX2_init_126 : decode cX2_init 126 = .ok (.iload 7, 2) := by decide +kernel
theorem dX2_init_128 : decode cX2_init 128 = .ok (.iconst 1, 1) := by decide +kernel
theorem dX2_init_129 : decode cX2_init 129 = .ok (.iadd, 1) := by decide +kernel
theorem dX2_init_130 : decode cX2_init 130 = .ok (.iload 6, 2) := by decide +kernel
theorem dX2_init_132 : decode cX2_init 132 = .ok (.iastore, 1) := by decide +kernel
theorem dX2_init_133 : decode cX2_init 133 = .ok (.aload_n 0, 1) := by decide +kernel
theorem dX2_init_134 : decode cX2_init 134 = .ok (.getfield 9, 3) := by decide +kernel
theorem dX2_init_137 : decode cX2_init 137 = .ok (.iload 7, 2) := by decide +kernel
theorem dX2_init_139 : decode cX2_init 139 = .ok (.iconst 2, 1) := by decide +kernel
theorem dX2_init_140 : decode cX2_init 140 = .ok (.iadd, 1) := by decide +kernel
theorem dX2_init_141 : decode cX2_init 141 = .ok (.iload 5, 2) := by decide +kernel
theorem dX2_init_143 : decode cX2_init 143 = .ok (.iastore, 1) := by decide +kernel
theorem dX2_init_144 : decode cX2_init 144 = .ok (.aload_n 0, 1) := by decide +kernel
theorem dX2_init_145 : decode cX2_init 145 = .ok (.getfield 9, 3) := by decide +kernel
theorem dX2_init_148 : decode cX2_init 148 = .ok (.iload 7, 2) := by decide +kernel
theorem dX2_init_150 : decode cX2_init 150 = .ok (.iconst 3, 1) := by decide +kernel
theorem dX2_init_151 : decode cX2_init 151 = .ok (.iadd, 1) := by decide +kernel
theorem dX2_init_152 : decode cX2_init 152 = .ok (.iload 4, 2) := by decide +kernel
theorem dX2_init_154 : decode cX2_init 154 = .ok (.iastore, 1) := by decide +kernel
theorem dX2_init_155 : decode cX2_init 155 = .ok (.aload_n 0, 1) := by decide +kernel
theorem dX2_init_156 : decode cX2_init 156 = .ok (.getfield 9, 3) := by decide +kernel
theorem dX2_init_159 : decode cX2_init 159 = .ok (.iload 7, 2) := by decide +kernel
theorem dX2_init_161 : decode cX2_init 161 = .ok (.iconst 4, 1) := by decide +kernel
theorem dX2_init_162 : decode cX2_init 162 = .ok (.iadd, 1) := by decide +kernel
theorem dX2_init_163 : decode cX2_init 163 = .ok (.iload_n 3, 1) := by decide +kernel
theorem dX2_init_164 : decode cX2_init 164 = .ok (.iastore, 1) := by decide +kernel
theorem dX2_init_165 : decode cX2_init 165 = .ok (.aload_n 0, 1) := by decide +kernel
theorem dX2_init_166 : decode cX2_init 166 = .ok (.getfield 15, 3) := by decide +kernel
theorem dX2_init_169 : decode cX2_init 169 = .ok (.iload_n 2, 1) := by decide +kernel
theorem dX2_init_170 : decode cX2_init 170 = .ok (.iload_n 1, 1) := by decide +kernel
theorem dX2_init_171 : decode cX2_init 171 = .ok (.iastore, 1) := by decide +kernel
theorem dX2_init_172 : decode cX2_init 172 = .ok (.iinc 1 1, 3) := by decide +kernel
theorem dX2_init_175 : decode cX2_init 175 = .ok (.iinc 2 1, 3) := by decide +kernel
theorem dX2_init_178 : decode cX2_init 178 = .ok (.goto (-152), 3) := by decide +kernel
theorem dX2_init_181 : decode cX2_init 181 = .ok (.return_, 1) := by decide +kernel
theorem dX2_count_0 : decode cX2_count 0 = .ok (.iconst 1, 1) := by decide +kernel
theorem dX2_count_1 : decode cX2_count 1 = .ok (.istore_n 2, 1) := by decide +kernel
theorem dX2_count_2 : decode cX2_count 2 = .ok (.iconst 2, 1) := by decide +kernel
theorem dX2_count_3 : decode cX2_count 3 = .ok (.istore_n 3, 1) := by decide +kernel
theorem dX2_count_4 : decode cX2_count 4 = .ok (.iload_n 3, 1) := by decide +kernel
theorem dX2_count_5 : decode cX2_count 5 = .ok (.iload_n 1, 1) := by decide +kernel
theorem dX2_count_6 : decode cX2_count 6 = .ok (.if_icmp .gt 18, 3) := by decide +kernel
theorem dX2_count_9 : decode cX2_count 9 = .ok (.iload_n 3, 1) := by decide +kernel
theorem dX2_count_10 : decode cX2_count 10 = .ok (.iconst 5, 1) := by decide +kernel
theorem dX2_count_11 : decode cX2_count 11 = .ok (.if_icmp .gt 13, 3) := by decide +kernel
theorem dX2_count_14 : decode cX2_count 14 = .ok (.iload_n 2, 1) := by decide +kernel
theorem dX2_count_15 : decode cX2_count 15 = .ok (.iload_n 3, 1) := by decide +kernel
theorem dX2_count_16 : decode cX2_count 16 = .ok (.imul, 1) := by decide +kernel
theorem dX2_count_17 : decode cX2_count 17 = .ok (.istore_n 2, 1) := by decide +kernel
theorem dX2_count_18 : decode cX2_count 18 = .ok (.iinc 3 1, 3) := by decide +kernel
theorem dX2_count_21 : decode cX2_count 21 = .ok (.goto (-17), 3) := by decide +kernel
theorem dX2_count_24 : decode cX2_count 24 = .ok (.iload_n 2, 1) := by decide +kernel
theorem dX2_count_25 : decode cX2_count 25 = .ok (.ireturn, 1) := by decide +kernel
theorem dX2_goal_0 : decode cX2_goal 0 = .ok (.iload_n 1, 1) := by decide +kernel
theorem dX2_goal_1 : decode cX2_goal 1 = .ok (.ifCond .lt 18, 3) := by decide +kernel
theorem dX2_goal_4 : decode cX2_goal 4 = .ok (.iload_n 1, 1) := by decide +kernel
theorem dX2_goal_5 : decode cX2_goal 5 = .ok (.bipush 120, 2) := by decide +kernel
theorem dX2_goal_7 : decode cX2_goal 7 = .ok (.if_icmp .ge 12, 3) := by decide +kernel
theorem dX2_goal_10 : decode cX2_goal 10 = .ok (.iload_n 2, 1) := by decide +kernel
theorem dX2_goal_11 : decode cX2_goal 11 = .ok (.ifCond .lt 8, 3) := by decide +kernel
theorem dX2_goal_14 : decode cX2_goal 14 = .ok (.iload_n 2, 1) := by decide +kernel
theorem dX2_goal_15 : decode cX2_goal 15 = .ok (.iconst 5, 1) := by decide +kernel
theorem dX2_goal_16 : decode cX2_goal 16 = .ok (.if_icmp .lt 5, 3) := by decide +kernel
theorem dX2_goal_19 : decode cX2_goal 19 = .ok (.iconst 0, 1) := by decide +kernel
theorem dX2_goal_20 : decode cX2_goal 20 = .ok (.ireturn, 1) := by decide +kernel
theorem dX2_goal_21 : decode cX2_goal 21 = .ok (.aload_n 0, 1) := by decide +kernel
theorem dX2_goal_22 : decode cX2_goal 22 = .ok (.getfield 9, 3) := by decide +kernel
theorem dX2_goal_25 : decode cX2_goal 25 = .ok (.iload_n 1, 1) := by decide +kernel
theorem dX2_goal_26 : decode cX2_goal 26 = .ok (.iconst 5, 1) := by decide +kernel
theorem dX2_goal_27 : decode cX2_goal 27 = .ok (.imul, 1) := by decide +kernel
theorem dX2_goal_28 : decode cX2_goal 28 = .ok (.iload_n 2, 1) := by decide +kernel
theorem dX2_goal_29 : decode cX2_goal 29 = .ok (.iadd, 1) := by decide +kernel
theorem dX2_goal_30 : decode cX2_goal 30 = .ok (.iaload, 1) := by decide +kernel
theorem dX2_goal_31 : decode cX2_goal 31 = .ok (.ireturn, 1) := by decide +kernel
theorem dX2_longerKey_0 : decode cX2_longerKey 0 = .ok (.iload_n 1, 1) := by decide +kernel
theorem dX2_longerKey_1 : decode cX2_longerKey 1 = .ok (.iconst 5, 1) := by decide +kernel
theorem dX2_longerKey_2 : decode cX2_longerKey 2 = .ok (.imul, 1) := by decide +kernel
theorem dX2_longerKey_3 : decode cX2_longerKey 3 = .ok (.iconst 5, 1) := by decide +kernel
theorem dX2_longerKey_4 : decode cX2_longerKey 4 = .ok (.iadd, 1) := by decide +kernel
theorem dX2_longerKey_5 : decode cX2_longerKey 5 = .ok (.iconst 1, 1) := by decide +kernel
theorem dX2_longerKey_6 : decode cX2_longerKey 6 = .ok (.isub, 1) := by decide +kernel
theorem dX2_longerKey_7 : decode cX2_longerKey 7 = .ok (.iload_n 2, 1) := by decide +kernel
theorem dX2_longerKey_8 : decode cX2_longerKey 8 = .ok (.isub, 1) := by decide +kernel
theorem dX2_longerKey_9 : decode cX2_longerKey 9 = .ok (.ireturn, 1) := by decide +kernel
theorem dX2_withKey_0 : decode cX2_withKey 0 = .ok (.iload_n 1, 1) := by decide +kernel
theorem dX2_withKey_1 : decode cX2_withKey 1 = .ok (.ifCond .lt 19, 3) := by decide +kernel
theorem dX2_withKey_4 : decode cX2_withKey 4 = .ok (.iload_n 1, 1) := by decide +kernel
theorem dX2_withKey_5 : decode cX2_withKey 5 = .ok (.sipush 625, 3) := by decide +kernel
theorem dX2_withKey_8 : decode cX2_withKey 8 = .ok (.if_icmp .ge 12, 3) := by decide +kernel
theorem dX2_withKey_11 : decode cX2_withKey 11 = .ok (.aload_n 0, 1) := by decide +kernel
theorem dX2_withKey_12 : decode cX2_withKey 12 = .ok (.getfield 15, 3) := by decide +kernel
theorem dX2_withKey_15 : decode cX2_withKey 15 = .ok (.iload_n 1, 1) := by decide +kernel
theorem dX2_withKey_16 : decode cX2_withKey 16 = .ok (.iaload, 1) := by decide +kernel
theorem dX2_withKey_17 : decode cX2_withKey 17 = .ok (.goto 4, 3) := by decide +kernel
theorem dX2_withKey_20 : decode cX2_withKey 20 = .ok (.iconst 0, 1) := by decide +kernel
theorem dX2_withKey_21 : decode cX2_withKey 21 = .ok (.ireturn, 1) := by decide +kernel
theorem dX2_times_0 : decode cX2_times 0 = .ok (.iconst 0, 1) := by decide +kernel
theorem dX2_times_1 : decode cX2_times 1 = .ok (.istore_n 3, 1) := by decide +kernel
theorem dX2_times_2 : decode cX2_times 2 = .ok (.iconst 4, 1) := by decide +kernel
theorem dX2_times_3 : decode cX2_times 3 = .ok (.istore 4, 2) := by decide +kernel
theorem dX2_times_5 : decode cX2_times 5 = .ok (.iload 4, 2) := by decide +kernel
theorem dX2_times_7 : decode cX2_times 7 = .ok (.ifCond .le 27, 3) := by decide +kernel
theorem dX2_times_10 : decode cX2_times 10 = .ok (.aload_n 0, 1) := by decide +kernel
theorem dX2_times_11 : decode cX2_times 11 = .ok (.iload_n 3, 1) := by decide +kernel
theorem dX2_times_12 : decode cX2_times 12 = .ok (.aload_n 0, 1) := by decide +kernel
theorem dX2_times_13 : decode cX2_times 13 = .ok (.iload_n 2, 1) := by decide +kernel
theorem dX2_times_14 : decode cX2_times 14 = .ok (.aload_n 0, 1) := by decide +kernel
theorem dX2_times_15 : decode cX2_times 15 = .ok (.iload_n 1, 1) := by decide +kernel
theorem dX2_times_16 : decode cX2_times 16 = .ok (.iload 4, 2) := by decide +kernel
theorem dX2_times_18 : decode cX2_times 18 = .ok (.invokevirtual 24, 3) := by decide +kernel
theorem dX2_times_21 : decode cX2_times 21 = .ok (.invokevirtual 24, 3) := by decide +kernel
theorem dX2_times_24 : decode cX2_times 24 = .ok (.invokevirtual 28, 3) := by decide +kernel
theorem dX2_times_27 : decode cX2_times 27 = .ok (.istore_n 3, 1) := by decide +kernel
theorem dX2_times_28 : decode cX2_times 28 = .ok (.iinc 4 (-1), 3) := by decide +kernel
theorem dX2_times_31 : decode cX2_times 31 = .ok (.goto (-26), 3) := by decide +kernel
theorem dX2_times_34 : decode cX2_times 34 = .ok (.aload_n 0, 1) := by decide +kernel
theorem dX2_times_35 : decode cX2_times 35 = .ok (.iload_n 3, 1) := by decide +kernel
theorem dX2_times_36 : decode cX2_times 36 = .ok (.invokevirtual 31, 3) := by decide +kernel
theorem dX2_times_39 : decode cX2_times 39 = .ok (.ireturn, 1) := by decide +kernel
theorem dX2_opposite_0 : decode cX2_opposite 0 = .ok (.iconst 0, 1) := by decide +kernel
theorem dX2_opposite_1 : decode cX2_opposite 1 = .ok (.istore_n 2, 1) := by decide +kernel
theorem dX2_opposite_2 : decode cX2_opposite 2 = .ok (.iconst 0, 1) := by decide +kernel
theorem dX2_opposite_3 : decode cX2_opposite 3 = .ok (.istore_n 3, 1) := by decide +kernel
theorem dX2_opposite_4 : decode cX2_opposite 4 = .ok (.iload_n 3, 1) := by decide +kernel
theorem dX2_opposite_5 : decode cX2_opposite 5 = .ok (.bipush 120, 2) := by decide +kernel
theorem dX2_opposite_7 : decode cX2_opposite 7 = .ok (.if_icmp .ge 27, 3) := by decide +kernel
theorem dX2_opposite_10 : decode cX2_opposite 10 = .ok (.aload_n 0, 1) := by decide +kernel
theorem dX2_opposite_11 : decode cX2_opposite 11 = .ok (.iload_n 2, 1) := by decide +kernel
theorem dX2_opposite_12 : decode cX2_opposite 12 = .ok (.iload_n 1, 1) := by decide +kernel
theorem dX2_opposite_13 : decode cX2_opposite 13 = .ok (.invokevirtual 34, 3) := by decide +kernel
theorem dX2_opposite_16 : decode cX2_opposite 16 = .ok (.istore 4, 2) := by decide +kernel
theorem dX2_opposite_18 : decode cX2_opposite 18 = .ok (.iload 4, 2) := by decide +kernel
theorem dX2_opposite_20 : decode cX2_opposite 20 = .ok (.ifCond .ne 5, 3) := by decide +kernel
theorem dX2_opposite_23 : decode cX2_opposite 23 = .ok (.iload_n 2, 1) := by decide +kernel
theorem dX2_opposite_24 : decode cX2_opposite 24 = .ok (.ireturn, 1) := by decide +kernel
theorem dX2_opposite_25 : decode cX2_opposite 25 = .ok (.iload 4, 2) := by decide +kernel
theorem dX2_opposite_27 : decode cX2_opposite 27 = .ok (.istore_n 2, 1) := by decide +kernel
theorem dX2_opposite_28 : decode cX2_opposite 28 = .ok (.iinc 3 1, 3) := by decide +kernel
theorem dX2_opposite_31 : decode cX2_opposite 31 = .ok (.goto (-27), 3) := by decide +kernel
theorem dX2_opposite_34 : decode cX2_opposite 34 = .ok (.iconst 0, 1) := by decide +kernel
theorem dX2_opposite_35 : decode cX2_opposite 35 = .ok (.ireturn, 1) := by decide +kernel
theorem dX2_period_0 : decode cX2_period 0 = .ok (.iload_n 1, 1) := by decide +kernel
theorem dX2_period_1 : decode cX2_period 1 = .ok (.istore_n 2, 1) := by decide +kernel
theorem dX2_period_2 : decode cX2_period 2 = .ok (.iconst 1, 1) := by decide +kernel
theorem dX2_period_3 : decode cX2_period 3 = .ok (.istore_n 3, 1) := by decide +kernel
theorem dX2_period_4 : decode cX2_period 4 = .ok (.iload_n 2, 1) := by decide +kernel
theorem dX2_period_5 : decode cX2_period 5 = .ok (.ifCond .eq 22, 3) := by decide +kernel
theorem dX2_period_8 : decode cX2_period 8 = .ok (.iload_n 3, 1) := by decide +kernel
theorem dX2_period_9 : decode cX2_period 9 = .ok (.bipush 120, 2) := by decide +kernel
theorem dX2_period_11 : decode cX2_period 11 = .ok (.if_icmp .ge 16, 3) := by decide +kernel
theorem dX2_period_14 : decode cX2_period 14 = .ok (.aload_n 0, 1) := by decide +kernel
theorem dX2_period_15 : decode cX2_period 15 = .ok (.iload_n 2, 1) := by decide +kernel
theorem dX2_period_16 : decode cX2_period 16 = .ok (.iload_n 1, 1) := by decide +kernel
theorem dX2_period_17 : decode cX2_period 17 = .ok (.invokevirtual 34, 3) := by decide +kernel
theorem dX2_period_20 : decode cX2_period 20 = .ok (.istore_n 2, 1) := by decide +kernel
theorem dX2_period_21 : decode cX2_period 21 = .ok (.iinc 3 1, 3) := by decide +kernel
theorem dX2_period_24 : decode cX2_period 24 = .ok (.goto (-20), 3) := by decide +kernel
theorem dX2_period_27 : decode cX2_period 27 = .ok (.iload_n 3, 1) := by decide +kernel
theorem dX2_period_28 : decode cX2_period 28 = .ok (.ireturn, 1) := by decide +kernel
theorem dX2_fromNumber_0 : decode cX2_fromNumber 0 = .ok (.iload_n 1, 1) := by decide +kernel
theorem dX2_fromNumber_1 : decode cX2_fromNumber 1 = .ok (.istore_n 3, 1) := by decide +kernel
theorem dX2_fromNumber_2 : decode cX2_fromNumber 2 = .ok (.iconst 0, 1) := by decide +kernel
theorem dX2_fromNumber_3 : decode cX2_fromNumber 3 = .ok (.istore 4, 2) := by decide +kernel
theorem dX2_fromNumber_5 : decode cX2_fromNumber 5 = .ok (.iconst 0, 1) := by decide +kernel
theorem dX2_fromNumber_6 : decode cX2_fromNumber 6 = .ok (.istore 5, 2) := by decide +kernel
theorem dX2_fromNumber_8 : decode cX2_fromNumber 8 = .ok (.iconst 4, 1) := by decide +kernel
theorem dX2_fromNumber_9 : decode cX2_fromNumber 9 = .ok (.istore 6, 2) := by decide +kernel
theorem dX2_fromNumber_11 : decode cX2_fromNumber 11 = .ok (.iload 6, 2) := by decide +kernel
theorem dX2_fromNumber_13 : decode cX2_fromNumber 13 = .ok (.ifCond .lt 74, 3) := by decide +kernel
theorem dX2_fromNumber_16 : decode cX2_fromNumber 16 = .ok (.iload 6, 2) := by decide +kernel
theorem dX2_fromNumber_18 : decode cX2_fromNumber 18 = .ok (.istore 7, 2) := by decide +kernel
theorem dX2_fromNumber_20 : decode cX2_fromNumber 20 = .ok (.iload 6, 2) := by decide +kernel
theorem dX2_fromNumber_22 : decode cX2_fromNumber 22 = .ok (.iload_n 2, 1) := by decide +kernel
theorem dX2_fromNumber_23 : decode cX2_fromNumber 23 = .ok (.if_icmp .ge 29, 3) := by decide +kernel
theorem dX2_fromNumber_26 : decode cX2_fromNumber 26 = .ok (.iload_n 3, 1) := by decide +kernel
theorem dX2_fromNumber_27 : decode cX2_fromNumber 27 = .ok (.bipush 10, 2) := by decide +kernel
theorem dX2_fromNumber_29 : decode cX2_fromNumber 29 = .ok (.irem, 1) := by decide +kernel
theorem dX2_fromNumber_30 : decode cX2_fromNumber 30 = .ok (.iconst 1, 1) := by decide +kernel
theorem dX2_fromNumber_31 : decode cX2_fromNumber 31 = .ok (.isub, 1) := by decide +kernel
theorem dX2_fromNumber_32 : decode cX2_fromNumber 32 = .ok (.istore 7, 2) := by decide +kernel
theorem dX2_fromNumber_34 : decode cX2_fromNumber 34 = .ok (.iload_n 3, 1) := by decide +kernel
theorem dX2_fromNumber_35 : decode cX2_fromNumber 35 = .ok (.bipush 10, 2) := by decide +kernel
theorem dX2_fromNumber_37 : decode cX2_fromNumber 37 = .ok (.idiv, 1) := by decide +kernel
theorem dX2_fromNumber_38 : decode cX2_fromNumber 38 = .ok (.istore_n 3, 1) := by decide +kernel
theorem dX2_fromNumber_39 : decode cX2_fromNumber 39 = .ok (.iload 7, 2) := by decide +kernel
theorem dX2_fromNumber_41 : decode cX2_fromNumber 41 = .ok (.ifCond .lt 9, 3) := by decide +kernel
theorem dX2_fromNumber_44 : decode cX2_fromNumber 44 = .ok (.iload 7, 2) := by decide +kernel
theorem dX2_fromNumber_46 : decode cX2_fromNumber 46 = .ok (.iload_n 2, 1) := by decide +kernel
theorem dX2_fromNumber_47 : decode cX2_fromNumber 47 = .ok (.if_icmp .lt 5, 3) := by decide +kernel
theorem dX2_fromNumber_50 : decode cX2_fromNumber 50 = .ok (.iconst (-1), 1) := by decide +kernel
theorem dX2_fromNumber_51 : decode cX2_fromNumber 51 = .ok (.ireturn, 1) := by decide +kernel
theorem dX2_fromNumber_52 : decode cX2_fromNumber 52 = .ok (.iload 4, 2) := by decide +kernel
theorem dX2_fromNumber_54 : decode cX2_fromNumber 54 = .ok (.iconst 1, 1) := by decide +kernel
theorem dX2_fromNumber_55 : decode cX2_fromNumber 55 = .ok (.iload 7, 2) := by decide +kernel
theorem dX2_fromNumber_57 : decode cX2_fromNumber 57 = .ok (.ishl, 1) := by decide +kernel
theorem dX2_fromNumber_58 : decode cX2_fromNumber 58 = .ok (.ior, 1) := by decide +kernel
theorem dX2_fromNumber_59 : decode cX2_fromNumber 59 = .ok (.istore 4, 2) := by decide +kernel
theorem dX2_fromNumber_61 : decode cX2_fromNumber 61 = .ok (.iload 6, 2) := by decide +kernel
theorem dX2_fromNumber_63 : decode cX2_fromNumber 63 = .ok (.ifCond .le 14, 3) := by decide +kernel
theorem dX2_fromNumber_66 : decode cX2_fromNumber 66 = .ok (.aload_n 0, 1) := by decide +kernel
theorem dX2_fromNumber_67 : decode cX2_fromNumber 67 = .ok (.iload 5, 2) := by decide +kernel
theorem dX2_fromNumber_69 : decode cX2_fromNumber 69 = .ok (.iload 7, 2) := by decide +kernel
theorem dX2_fromNumber_71 : decode cX2_fromNumber 71 = .ok (.invokevirtual 28, 3) := by decide +kernel
theorem dX2_fromNumber_74 : decode cX2_fromNumber 74 = .ok (.goto 5, 3) := by decide +kernel
theorem dX2_fromNumber_77 : decode cX2_fromNumber 77 = .ok (.iload 5, 2) := by decide +kernel
theorem dX2_fromNumber_79 : decode cX2_fromNumber 79 = .ok (.istore 5, 2) := by decide +kernel
theorem dX2_fromNumber_81 : decode cX2_fromNumber 81 = .ok (.iinc 6 (-1), 3) := by decide +kernel
theorem dX2_fromNumber_84 : decode cX2_fromNumber 84 = .ok (.goto (-73), 3) := by decide +kernel
theorem dX2_fromNumber_87 : decode cX2_fromNumber 87 = .ok (.iload_n 3, 1) := by decide +kernel
theorem dX2_fromNumber_88 : decode cX2_fromNumber 88 = .ok (.ifCond .ne 12, 3) := by decide +kernel
theorem dX2_fromNumber_91 : decode cX2_fromNumber 91 = .ok (.iload 4, 2) := by decide +kernel
theorem dX2_fromNumber_93 : decode cX2_fromNumber 93 = .ok (.invokestatic 18, 3) := by decide +kernel
theorem dX2_fromNumber_96 : decode cX2_fromNumber 96 = .ok (.iconst 5, 1) := by decide +kernel
theorem dX2_fromNumber_97 : decode cX2_fromNumber 97 = .ok (.if_icmp .eq 5, 3) := by decide +kernel
theorem dX2_fromNumber_100 : decode cX2_fromNumber 100 = .ok (.iconst (-1), 1) := by decide +kernel
theorem dX2_fromNumber_101 : decode cX2_fromNumber 101 = .ok (.ireturn, 1) := by decide +kernel
theorem dX2_fromNumber_102 : decode cX2_fromNumber 102 = .ok (.aload_n 0, 1) := by decide +kernel
theorem dX2_fromNumber_103 : decode cX2_fromNumber 103 = .ok (.iload 5, 2) := by decide +kernel
theorem dX2_fromNumber_105 : decode cX2_fromNumber 105 = .ok (.invokevirtual 31, 3) := by decide +kernel
theorem dX2_fromNumber_108 : decode cX2_fromNumber 108 = .ok (.ireturn, 1) := by decide +kernel
theorem dX2_toNumber_0 : decode cX2_toNumber 0 = .ok (.iconst 0, 1) := by decide +kernel
theorem dX2_toNumber_1 : decode cX2_toNumber 1 = .ok (.istore_n 3, 1) := by decide +kernel
theorem dX2_toNumber_2 : decode cX2_toNumber 2 = .ok (.iconst 0, 1) := by decide +kernel
theorem dX2_toNumber_3 : decode cX2_toNumber 3 = .ok (.istore 4, 2) := by decide +kernel
theorem dX2_toNumber_5 : decode cX2_toNumber 5 = .ok (.iload 4, 2) := by decide +kernel
theorem dX2_toNumber_7 : decode cX2_toNumber 7 = .ok (.iload_n 2, 1) := by decide +kernel
theorem dX2_toNumber_8 : decode cX2_toNumber 8 = .ok (.if_icmp .ge 30, 3) := by decide +kernel
theorem dX2_toNumber_11 : decode cX2_toNumber 11 = .ok (.iload 4, 2) := by decide +kernel
theorem dX2_toNumber_13 : decode cX2_toNumber 13 = .ok (.iconst 5, 1) := by decide +kernel
theorem dX2_toNumber_14 : decode cX2_toNumber 14 = .ok (.if_icmp .ge 24, 3) := by decide +kernel
theorem dX2_toNumber_17 : decode cX2_toNumber 17 = .ok (.iload_n 3, 1) := by decide +kernel
theorem dX2_toNumber_18 : decode cX2_toNumber 18 = .ok (.bipush 10, 2) := by decide +kernel
theorem dX2_toNumber_20 : decode cX2_toNumber 20 = .ok (.imul, 1) := by decide +kernel
theorem dX2_toNumber_21 : decode cX2_toNumber 21 = .ok (.aload_n 0, 1) := by decide +kernel
theorem dX2_toNumber_22 : decode cX2_toNumber 22 = .ok (.iload_n 1, 1) := by decide +kernel
theorem dX2_toNumber_23 : decode cX2_toNumber 23 = .ok (.iload 4, 2) := by decide +kernel
theorem dX2_toNumber_25 : decode cX2_toNumber 25 = .ok (.invokevirtual 24, 3) := by decide +kernel
theorem dX2_toNumber_28 : decode cX2_toNumber 28 = .ok (.iadd, 1) := by decide +kernel
theorem dX2_toNumber_29 : decode cX2_toNumber 29 = .ok (.iconst 1, 1) := by decide +kernel
theorem dX2_toNumber_30 : decode cX2_toNumber 30 = .ok (.iadd, 1) := by decide +kernel
theorem dX2_toNumber_31 : decode cX2_toNumber 31 = .ok (.istore_n 3, 1) := by decide +kernel
theorem dX2_toNumber_32 : decode cX2_toNumber 32 = .ok (.iinc 4 1, 3) := by decide +kernel
theorem dX2_toNumber_35 : decode cX2_toNumber 35 = .ok (.goto (-30), 3) := by decide +kernel
theorem dX2_toNumber_38 : decode cX2_toNumber 38 = .ok (.iload_n 3, 1) := by decide +kernel
theorem dX2_toNumber_39 : decode cX2_toNumber 39 = .ok (.ireturn, 1) := by decide +kernel
theorem dX3_init_0 : decode cX3_init 0 = .ok (.aload_n 0, 1) := by decide +kernel
theorem dX3_init_1 : decode cX3_init 1 = .ok (.invokespecial 5, 3) := by decide +kernel
theorem dX3_init_4 : decode cX3_init 4 = .ok (.aload_n 0, 1) := by decide +kernel
theorem dX3_init_5 : decode cX3_init 5 = .ok (.aload_n 1, 1) := by decide +kernel
theorem dX3_init_6 : decode cX3_init 6 = .ok (.putfield 11, 3) := by decide +kernel
theorem dX3_init_9 : decode cX3_init 9 = .ok (.aload_n 0, 1) := by decide +kernel
theorem dX3_init_10 : decode cX3_init 10 = .ok (.sipush 960, 3) := by decide +kernel
theorem dX3_init_13 : decode cX3_init 13 = .ok (.newarray .int, 2) := by decide +kernel
theorem dX3_init_15 : decode cX3_init 15 = .ok (.putfield 15, 3) := by decide +kernel
theorem dX3_init_18 : decode cX3_init 18 = .ok (.aload_n 0, 1) := by decide +kernel
theorem dX3_init_19 : decode cX3_init 19 = .ok (.sipush 514, 3) := by decide +kernel
theorem dX3_init_22 : decode cX3_init 22 = .ok (.newarray .long, 2) := by decide +kernel
theorem dX3_init_24 : decode cX3_init 24 = .ok (.putfield 19, 3) := by decide +kernel
theorem dX3_init_27 : decode cX3_init 27 = .ok (.aload_n 0, 1) := by decide +kernel
theorem dX3_init_28 : decode cX3_init 28 = .ok (.new 23, 3) := by decide +kernel
theorem dX3_init_31 : decode cX3_init 31 = .ok (.dup, 1) := by decide +kernel
theorem dX3_init_32 : decode cX3_init 32 = .ok (.bipush 120, 2) := by decide +kernel
theorem dX3_init_34 : decode cX3_init 34 = .ok (.invokespecial 25, 3) := by decide +kernel
theorem dX3_init_37 : decode cX3_init 37 = .ok (.putfield 28, 3) := by decide +kernel
theorem dX3_init_40 : decode cX3_init 40 = .ok (.return_, 1) := by decide +kernel
theorem dX3_study_0 : decode cX3_study 0 = .ok (.aload_n 0, 1) := by decide +kernel
theorem dX3_study_1 : decode cX3_study 1 = .ok (.aload_n 1, 1) := by decide +kernel
theorem dX3_study_2 : decode cX3_study 2 = .ok (.iload_n 2, 1) := by decide +kernel
theorem dX3_study_3 : decode cX3_study 3 = .ok (.invokevirtual 32, 3) := by decide +kernel
theorem dX3_study_6 : decode cX3_study 6 = .ok (.aload_n 0, 1) := by decide +kernel
theorem dX3_study_7 : decode cX3_study 7 = .ok (.iconst 0, 1) := by decide +kernel
theorem dX3_study_8 : decode cX3_study 8 = .ok (.iconst 0, 1) := by decide +kernel
theorem dX3_study_9 : decode cX3_study 9 = .ok (.invokevirtual 36, 3) := by decide +kernel
theorem dX3_study_12 : decode cX3_study 12 = .ok (.iconst 0, 1) := by decide +kernel
theorem dX3_study_13 : decode cX3_study 13 = .ok (.istore_n 3, 1) := by decide +kernel
theorem dX3_study_14 : decode cX3_study 14 = .ok (.iload_n 3, 1) := by decide +kernel
theorem dX3_study_15 : decode cX3_study 15 = .ok (.aload_n 0, 1) := by decide +kernel
theorem dX3_study_16 : decode cX3_study 16 = .ok (.getfield 40, 3) := by decide +kernel
theorem dX3_study_19 : decode cX3_study 19 = .ok (.if_icmp .ge 43, 3) := by decide +kernel
theorem dX3_study_22 : decode cX3_study 22 = .ok (.iconst 0, 1) := by decide +kernel
theorem dX3_study_23 : decode cX3_study 23 = .ok (.istore 4, 2) := by decide +kernel
theorem dX3_study_25 : decode cX3_study 25 = .ok (.iload 4, 2) := by decide +kernel
theorem dX3_study_27 : decode cX3_study 27 = .ok (.aload_n 0, 1) := by decide +kernel
theorem dX3_study_28 : decode cX3_study 28 = .ok (.getfield 44, 3) := by decide +kernel
theorem dX3_study_31 : decode cX3_study 31 = .ok (.if_icmp .ge 25, 3) := by decide +kernel
theorem dX3_study_34 : decode cX3_study 34 = .ok (.iload_n 3, 1) := by decide +kernel
theorem dX3_study_35 : decode cX3_study 35 = .ok (.iload 4, 2) := by decide +kernel
theorem dX3_study_37 : decode cX3_study 37 = .ok (.ishr, 1) := by decide +kernel
theorem dX3_study_38 : decode cX3_study 38 = .ok (.iconst 1, 1) := by decide +kernel
theorem dX3_study_39 : decode cX3_study 39 = .ok (.iand, 1) := by decide +kernel
theorem dX3_study_40 : decode cX3_study 40 = .ok (.ifCond .ne 10, 3) := by decide +kernel
theorem dX3_study_43 : decode cX3_study 43 = .ok (.aload_n 0, 1) := by decide +kernel
theorem dX3_study_44 : decode cX3_study 44 = .ok (.iload_n 3, 1) := by decide +kernel
theorem dX3_study_45 : decode cX3_study 45 = .ok (.iload 4, 2) := by decide +kernel
theorem dX3_study_47 : decode cX3_study 47 = .ok (.invokevirtual 47, 3) := by decide +kernel
theorem dX3_study_50 : decode cX3_study 50 = .ok (.iinc 4 1, 3) := by decide +kernel
theorem dX3_study_53 : decode cX3_study 53 = .ok (.goto (-28), 3) := by decide +kernel
theorem dX3_study_56 : decode cX3_study 56 = .ok (.iinc 3 1, 3) := by decide +kernel
theorem dX3_study_59 : decode cX3_study 59 = .ok (.goto (-45), 3) := by decide +kernel
theorem dX3_study_62 : decode cX3_study 62 = .ok (.return_, 1) := by decide +kernel
theorem dX3_takeHand_0 : decode cX3_takeHand 0 = .ok (.aload_n 0, 1) := by decide +kernel
theorem dX3_takeHand_1 : decode cX3_takeHand 1 = .ok (.getfield 19, 3) := by decide +kernel
theorem dX3_takeHand_4 : decode cX3_takeHand 4 = .ok (.lconst 0, 1) := by decide +kernel
theorem dX3_takeHand_5 : decode cX3_takeHand 5 = .ok (.invokestatic 50, 3) := by decide +kernel
theorem dX3_takeHand_8 : decode cX3_takeHand 8 = .ok (.aload_n 0, 1) := by decide +kernel
theorem dX3_takeHand_9 : decode cX3_takeHand 9 = .ok (.aload_n 1, 1) := by decide +kernel
theorem dX3_takeHand_10 : decode cX3_takeHand 10 = .ok (.getfield 56, 3) := by decide +kernel
theorem dX3_takeHand_13 : decode cX3_takeHand 13 = .ok (.invokevirtual 61, 3) := by decide +kernel
theorem dX3_takeHand_16 : decode cX3_takeHand 16 = .ok (.bipush 8, 2) := by decide +kernel
theorem dX3_takeHand_18 : decode cX3_takeHand 18 = .ok (.invokestatic 65, 3) := by decide +kernel
theorem dX3_takeHand_21 : decode cX3_takeHand 21 = .ok (.putfield 44, 3) := by decide +kernel
theorem dX3_takeHand_24 : decode cX3_takeHand 24 = .ok (.aload_n 0, 1) := by decide +kernel
theorem dX3_takeHand_25 : decode cX3_takeHand 25 = .ok (.iconst 1, 1) := by decide +kernel
theorem dX3_takeHand_26 : decode cX3_takeHand 26 = .ok (.aload_n 0, 1) := by decide +kernel
theorem dX3_takeHand_27 : decode cX3_takeHand 27 = .ok (.getfield 44, 3) := by decide +kernel
theorem dX3_takeHand_30 : decode cX3_takeHand 30 = .ok (.ishl, 1) := by decide +kernel
theorem dX3_takeHand_31 : decode cX3_takeHand 31 = .ok (.putfield 40, 3) := by decide +kernel
theorem dX3_takeHand_34 : decode cX3_takeHand 34 = .ok (.aload_n 0, 1) := by decide +kernel
theorem dX3_takeHand_35 : decode cX3_takeHand 35 = .ok (.getfield 11, 3) := by decide +kernel
theorem dX3_takeHand_38 : decode cX3_takeHand 38 = .ok (.iload_n 2, 1) := by decide +kernel
theorem dX3_takeHand_39 : decode cX3_takeHand 39 = .ok (.invokevirtual 71, 3) := by decide +kernel
theorem dX3_takeHand_42 : decode cX3_takeHand 42 = .ok (.bipush 120, 2) := by decide +kernel
theorem dX3_takeHand_44 : decode cX3_takeHand 44 = .ok (.invokestatic 65, 3) := by decide +kernel
theorem dX3_takeHand_47 : decode cX3_takeHand 47 = .ok (.istore_n 3, 1) := by decide +kernel
theorem dX3_takeHand_48 : decode cX3_takeHand 48 = .ok (.iconst 0, 1) := by decide +kernel
theorem dX3_takeHand_49 : decode cX3_takeHand 49 = .ok (.istore 4, 2) := by decide +kernel
theorem dX3_takeHand_51 : decode cX3_takeHand 51 = .ok (.iload 4, 2) := by decide +kernel
theorem dX3_takeHand_53 : decode cX3_takeHand 53 = .ok (.aload_n 0, 1) := by decide +kernel
theorem dX3_takeHand_54 : decode cX3_takeHand 54 = .ok (.getfield 44, 3) := by decide +kernel
theorem dX3_takeHand_57 : decode cX3_takeHand 57 = .ok (.if_icmp .ge 59, 3) := by decide +kernel
theorem dX3_takeHand_60 : decode cX3_takeHand 60 = .ok (.aload_n 1, 1) := by decide +kernel
theorem dX3_takeHand_61 : decode cX3_takeHand 61 = .ok (.getfield 56, 3) := by decide +kernel
theorem dX3_takeHand_64 : decode cX3_takeHand 64 = .ok (.iload 4, 2) := by decide +kernel
theorem dX3_takeHand_66 : decode cX3_takeHand 66 = .ok (.invokevirtual 77, 3) := by decide +kernel
theorem dX3_takeHand_69 : decode cX3_takeHand 69 = .ok (.istore 5, 2) := by decide +kernel
theorem dX3_takeHand_71 : decode cX3_takeHand 71 = .ok (.iconst 0, 1) := by decide +kernel
theorem dX3_takeHand_72 : decode cX3_takeHand 72 = .ok (.istore 6, 2) := by decide +kernel
theorem dX3_takeHand_74 : decode cX3_takeHand 74 = .ok (.iload 6, 2) := by decide +kernel
theorem dX3_takeHand_76 : decode cX3_takeHand 76 = .ok (.iload_n 3, 1) := by decide +kernel
theorem dX3_takeHand_77 : decode cX3_takeHand 77 = .ok (.if_icmp .ge 33, 3) := by decide +kernel
theorem dX3_takeHand_80 : decode cX3_takeHand 80 = .ok (.aload_n 0, 1) := by decide +kernel
theorem dX3_takeHand_81 : decode cX3_takeHand 81 = .ok (.getfield 15, 3) := by decide +kernel
theorem dX3_takeHand_84 : decode cX3_takeHand 84 = .ok (.iload 4, 2) := by decide +kernel
theorem dX3_takeHand_86 : decode cX3_takeHand 86 = .ok (.bipush 120, 2) := by decide +kernel
theorem dX3_takeHand_88 : decode cX3_takeHand 88 = .ok (.imul, 1) := by decide +kernel
theorem dX3_takeHand_89 : decode cX3_takeHand 89 = .ok (.iload 6, 2) := by decide +kernel
theorem dX3_takeHand_91 : decode cX3_takeHand 91 = .ok (.iadd, 1) := by decide +kernel
theorem dX3_takeHand_92 : decode cX3_takeHand 92 = .ok (.aload_n 0, 1) := by decide +kernel
theorem dX3_takeHand_93 : decode cX3_takeHand 93 = .ok (.getfield 11, 3) := by decide +kernel
theorem dX3_takeHand_96 : decode cX3_takeHand 96 = .ok (.iload 6, 2) := by decide +kernel
theorem dX3_takeHand_98 : decode cX3_takeHand 98 = .ok (.iload 5, 2) := by decide +kernel
theorem dX3_takeHand_100 : decode cX3_takeHand 100 = .ok (.invokevirtual 80, 3) := by decide +kernel
theorem dX3_takeHand_103 : decode cX3_takeHand 103 = .ok (.iastore, 1) := by decide +kernel
theorem dX3_takeHand_104 : decode cX3_takeHand 104 = .ok (.iinc 6 1, 3) := by decide +kernel
theorem dX3_takeHand_107 : decode cX3_takeHand 107 = .ok (.goto (-33), 3) := by decide +kernel
theorem dX3_takeHand_110 : decode cX3_takeHand 110 = .ok (.iinc 4 1, 3) := by decide +kernel
theorem dX3_takeHand_113 : decode cX3_takeHand 113 = .ok (.goto (-62), 3) := by decide +kernel
theorem dX3_takeHand_116 : decode cX3_takeHand 116 = .ok (.return_, 1) := by decide +kernel
theorem dX3_timesCard_0 : decode cX3_timesCard 0 = .ok (.iload_n 1, 1) := by decide +kernel
theorem dX3_timesCard_1 : decode cX3_timesCard 1 = .ok (.ifCond .lt 19, 3) := by decide +kernel
theorem dX3_timesCard_4 : decode cX3_timesCard 4 = .ok (.iload_n 1, 1) := by decide +kernel
theorem dX3_timesCard_5 : decode cX3_timesCard 5 = .ok (.bipush 120, 2) := by decide +kernel
theorem dX3_timesCard_7 : decode cX3_timesCard 7 = .ok (.if_icmp .ge 13, 3) := by decide +kernel
theorem dX3_timesCard_10 : decode cX3_timesCard 10 = .ok (.iload_n 2, 1) := by decide +kernel
theorem dX3_timesCard_11 : decode cX3_timesCard 11 = .ok (.ifCond .lt 9, 3) := by decide +kernel
theorem dX3_timesCard_14 : decode cX3_timesCard 14 = .ok (.iload_n 2, 1) := by decide +kernel
theorem dX3_timesCard_15 : decode cX3_timesCard 15 = .ok (.bipush 8, 2) := by decide +kernel
theorem dX3_timesCard_17 : decode cX3_timesCard 17 = .ok (.if_icmp .lt 5, 3) := by decide +kernel
theorem dX3_timesCard_20 : decode cX3_timesCard 20 = .ok (.iconst 0, 1) := by decide +kernel
theorem dX3_timesCard_21 : decode cX3_timesCard 21 = .ok (.ireturn, 1) := by decide +kernel
theorem dX3_timesCard_22 : decode cX3_timesCard 22 = .ok (.aload_n 0, 1) := by decide +kernel
theorem dX3_timesCard_23 : decode cX3_timesCard 23 = .ok (.getfield 15, 3) := by decide +kernel
theorem dX3_timesCard_26 : decode cX3_timesCard 26 = .ok (.iload_n 2, 1) := by decide +kernel
theorem dX3_timesCard_27 : decode cX3_timesCard 27 = .ok (.bipush 120, 2) := by decide +kernel
theorem dX3_timesCard_29 : decode cX3_timesCard 29 = .ok (.imul, 1) := by decide +kernel
theorem dX3_timesCard_30 : decode cX3_timesCard 30 = .ok (.iload_n 1, 1) := by decide +kernel
theorem dX3_timesCard_31 : decode cX3_timesCard 31 = .ok (.iadd, 1) := by decide +kernel
theorem dX3_timesCard_32 : decode cX3_timesCard 32 = .ok (.iaload, 1) := by decide +kernel
theorem dX3_timesCard_33 : decode cX3_timesCard 33 = .ok (.ireturn, 1) := by decide +kernel
theorem dX3_hasRoomFor_0 : decode cX3_hasRoomFor 0 = .ok (.iload_n 1, 1) := by decide +kernel
theorem dX3_hasRoomFor_1 : decode cX3_hasRoomFor 1 = .ok (.ifCond .lt 24, 3) := by decide +kernel
theorem dX3_hasRoomFor_4 : decode cX3_hasRoomFor 4 = .ok (.iload_n 1, 1) := by decide +kernel
theorem dX3_hasRoomFor_5 : decode cX3_hasRoomFor 5 = .ok (.sipush 256, 3) := by decide +kernel
theorem dX3_hasRoomFor_8 : decode cX3_hasRoomFor 8 = .ok (.if_icmp .gt 17, 3) := by decide +kernel
theorem dX3_hasRoomFor_11 : decode cX3_hasRoomFor 11 = .ok (.iload_n 2, 1) := by decide +kernel
theorem dX3_hasRoomFor_12 : decode cX3_hasRoomFor 12 = .ok (.ifCond .lt 13, 3) := by decide +kernel
theorem dX3_hasRoomFor_15 : decode cX3_hasRoomFor 15 = .ok (.iload_n 2, 1) := by decide +kernel
theorem dX3_hasRoomFor_16 : decode cX3_hasRoomFor 16 = .ok (.bipush 120, 2) := by decide +kernel
theorem dX3_hasRoomFor_18 : decode cX3_hasRoomFor 18 = .ok (.if_icmp .ge 7, 3) := by decide +kernel
theorem dX3_hasRoomFor_21 : decode cX3_hasRoomFor 21 = .ok (.iconst 1, 1) := by decide +kernel
theorem dX3_hasRoomFor_22 : decode cX3_hasRoomFor 22 = .ok (.goto 4, 3) := by decide +kernel
theorem dX3_hasRoomFor_25 : decode cX3_hasRoomFor 25 = .ok (.iconst 0, 1) := by decide +kernel
theorem dX3_hasRoomFor_26 : decode cX3_hasRoomFor 26 = .ok (.ireturn, 1) := by decide +kernel
theorem dX3_include_0 : decode cX3_include 0 = .ok (.aload_n 0, 1) := by decide +kernel
theorem dX3_include_1 : decode cX3_include 1 = .ok (.iload_n 1, 1) := by decide +kernel
theorem dX3_include_2 : decode cX3_include 2 = .ok (.iload_n 2, 1) := by decide +kernel
theorem dX3_include_3 : decode cX3_include 3 = .ok (.invokevirtual 83, 3) := by decide +kernel
theorem dX3_include_6 : decode cX3_include 6 = .ok (.ifCond .eq 25, 3) := by decide +kernel
theorem dX3_include_9 : decode cX3_include 9 = .ok (.aload_n 0, 1) := by decide +kernel
theorem dX3_include_10 : decode cX3_include 10 = .ok (.getfield 19, 3) := by decide +kernel
theorem dX3_include_13 : decode cX3_include 13 = .ok (.iconst 2, 1) := by decide +kernel
theorem dX3_include_14 : decode cX3_include 14 = .ok (.iload_n 1, 1) := by decide +kernel
theorem dX3_include_15 : decode cX3_include 15 = .ok (.imul, 1) := by decide +kernel
theorem dX3_include_16 : decode cX3_include 16 = .ok (.iload_n 2, 1) := by decide +kernel
theorem dX3_include_17 : decode cX3_include 17 = .ok (.bipush 64, 2) := by decide +kernel
theorem dX3_include_19 : decode cX3_include 19 = .ok (.idiv, 1) := by decide +kernel
theorem dX3_include_20 : decode cX3_include 20 = .ok (.iadd, 1) := by decide +kernel
theorem dX3_include_21 : decode cX3_include 21 = .ok (.dup2, 1) := by decide +kernel
theorem dX3_include_22 : decode cX3_include 22 = .ok (.laload, 1) := by decide +kernel
theorem dX3_include_23 : decode cX3_include 23 = .ok (.lconst 1, 1) := by decide +kernel
theorem dX3_include_24 : decode cX3_include 24 = .ok (.iload_n 2, 1) := by decide +kernel
theorem dX3_include_25 : decode cX3_include 25 = .ok (.bipush 64, 2) := by decide +kernel
theorem dX3_include_27 : decode cX3_include 27 = .ok (.irem, 1) := by decide +kernel
theorem dX3_include_28 : decode cX3_include 28 = .ok (.lshl, 1) := by decide +kernel
theorem dX3_include_29 : decode cX3_include 29 = .ok (.lor, 1) := by decide +kernel
theorem dX3_include_30 : decode cX3_include 30 = .ok (.lastore, 1) := by decide +kernel
theorem dX3_include_31 : decode cX3_include 31 = .ok (.return_, 1) := by decide +kernel
theorem dX3_contains_0 : decode cX3_contains 0 = .ok (.aload_n 0, 1) := by decide +kernel
theorem dX3_contains_1 : decode cX3_contains 1 = .ok (.iload_n 1, 1) := by decide +kernel
theorem dX3_contains_2 : decode cX3_contains 2 = .ok (.iload_n 2, 1) := by decide +kernel
theorem dX3_contains_3 : decode cX3_contains 3 = .ok (.invokevirtual 83, 3) := by decide +kernel
theorem dX3_contains_6 : decode cX3_contains 6 = .ok (.ifCond .eq 32, 3) := by decide +kernel
theorem dX3_contains_9 : decode cX3_contains 9 = .ok (.aload_n 0, 1) := by decide +kernel
theorem dX3_contains_10 : decode cX3_contains 10 = .ok (.getfield 19, 3) := by decide +kernel
theorem dX3_contains_13 : decode cX3_contains 13 = .ok (.iconst 2, 1) := by decide +kernel
theorem dX3_contains_14 : decode cX3_contains 14 = .ok (.iload_n 1, 1) := by decide +kernel
theorem dX3_contains_15 : decode cX3_contains 15 = .ok (.imul, 1) := by decide +kernel
theorem dX3_contains_16 : decode cX3_contains 16 = .ok (.iload_n 2, 1) := by decide +kernel
theorem dX3_contains_17 : decode cX3_contains 17 = .ok (.bipush 64, 2) := by decide +kernel
theorem dX3_contains_19 : decode cX3_contains 19 = .ok (.idiv, 1) := by decide +kernel
theorem dX3_contains_20 : decode cX3_contains 20 = .ok (.iadd, 1) := by decide +kernel
theorem dX3_contains_21 : decode cX3_contains 21 = .ok (.laload, 1) := by decide +kernel
theorem dX3_contains_22 : decode cX3_contains 22 = .ok (.iload_n 2, 1) := by decide +kernel
theorem dX3_contains_23 : decode cX3_contains 23 = .ok (.bipush 64, 2) := by decide +kernel
theorem dX3_contains_25 : decode cX3_contains 25 = .ok (.irem, 1) := by decide +kernel
theorem dX3_contains_26 : decode cX3_contains 26 = .ok (.lushr, 1) := by decide +kernel
theorem dX3_contains_27 : decode cX3_contains 27 = .ok (.lconst 1, 1) := by decide +kernel
theorem dX3_contains_28 : decode cX3_contains 28 = .ok (.land, 1) := by decide +kernel
theorem dX3_contains_29 : decode cX3_contains 29 = .ok (.lconst 0, 1) := by decide +kernel
theorem dX3_contains_30 : decode cX3_contains 30 = .ok (.lcmp, 1) := by decide +kernel
theorem dX3_contains_31 : decode cX3_contains 31 = .ok (.ifCond .eq 7, 3) := by decide +kernel
theorem dX3_contains_34 : decode cX3_contains 34 = .ok (.iconst 1, 1) := by decide +kernel
theorem dX3_contains_35 : decode cX3_contains 35 = .ok (.goto 4, 3) := by decide +kernel
theorem dX3_contains_38 : decode cX3_contains 38 = .ok (.iconst 0, 1) := by decide +kernel
theorem dX3_contains_39 : decode cX3_contains 39 = .ok (.ireturn, 1) := by decide +kernel
theorem dX3_extend_0 : decode cX3_extend 0 = .ok (.iload_n 1, 1) := by decide +kernel
theorem dX3_extend_1 : decode cX3_extend 1 = .ok (.ifCond .lt 10, 3) := by decide +kernel
theorem dX3_extend_4 : decode cX3_extend 4 = .ok (.iload_n 1, 1) := by decide +kernel
theorem dX3_extend_5 : decode cX3_extend 5 = .ok (.sipush 256, 3) := by decide +kernel
theorem dX3_extend_8 : decode cX3_extend 8 = .ok (.if_icmp .lt 4, 3) := by decide +kernel
theorem dX3_extend_11 : decode cX3_extend 11 = .ok (.return_, 1) := by decide +kernel
theorem dX3_extend_12 : decode cX3_extend 12 = .ok (.iload_n 1, 1) := by decide +kernel
theorem dX3_extend_13 : decode cX3_extend 13 = .ok (.iconst 1, 1) := by decide +kernel
theorem dX3_extend_14 : decode cX3_extend 14 = .ok (.iload_n 2, 1) := by decide +kernel
theorem dX3_extend_15 : decode cX3_extend 15 = .ok (.ishl, 1) := by decide +kernel
theorem dX3_extend_16 : decode cX3_extend 16 = .ok (.ior, 1) := by decide +kernel
theorem dX3_extend_17 : decode cX3_extend 17 = .ok (.istore_n 3, 1) := by decide +kernel
theorem dX3_extend_18 : decode cX3_extend 18 = .ok (.iconst 0, 1) := by decide +kernel
theorem dX3_extend_19 : decode cX3_extend 19 = .ok (.istore 4, 2) := by decide +kernel
theorem dX3_extend_21 : decode cX3_extend 21 = .ok (.iload 4, 2) := by decide +kernel
theorem dX3_extend_23 : decode cX3_extend 23 = .ok (.iconst 2, 1) := by decide +kernel
theorem dX3_extend_24 : decode cX3_extend 24 = .ok (.if_icmp .ge 83, 3) := by decide +kernel
theorem dX3_extend_27 : decode cX3_extend 27 = .ok (.aload_n 0, 1) := by decide +kernel
theorem dX3_extend_28 : decode cX3_extend 28 = .ok (.getfield 19, 3) := by decide +kernel
theorem dX3_extend_31 : decode cX3_extend 31 = .ok (.iconst 2, 1) := by decide +kernel
theorem dX3_extend_32 : decode cX3_extend 32 = .ok (.iload_n 1, 1) := by decide +kernel
theorem dX3_extend_33 : decode cX3_extend 33 = .ok (.imul, 1) := by decide +kernel
theorem dX3_extend_34 : decode cX3_extend 34 = .ok (.iload 4, 2) := by decide +kernel
theorem dX3_extend_36 : decode cX3_extend 36 = .ok (.iadd, 1) := by decide +kernel
theorem dX3_extend_37 : decode cX3_extend 37 = .ok (.laload, 1) := by decide +kernel
theorem dX3_extend_38 : decode cX3_extend 38 = .ok (.lstore 5, 2) := by decide +kernel
theorem dX3_extend_40 : decode cX3_extend 40 = .ok (.iconst 0, 1) := by decide +kernel
theorem dX3_extend_41 : decode cX3_extend 41 = .ok (.istore 7, 2) := by decide +kernel
theorem dX3_extend_43 : decode cX3_extend 43 = .ok (.iload 7, 2) := by decide +kernel
theorem dX3_extend_45 : decode cX3_extend 45 = .ok (.bipush 64, 2) := by decide +kernel
theorem dX3_extend_47 : decode cX3_extend 47 = .ok (.if_icmp .ge 54, 3) := by decide +kernel
theorem dX3_extend_50 : decode cX3_extend 50 = .ok (.lload 5, 2) := by decide +kernel
theorem dX3_extend_52 : decode cX3_extend 52 = .ok (.lconst 0, 1) := by decide +kernel
theorem dX3_extend_53 : decode cX3_extend 53 = .ok (.lcmp, 1) := by decide +kernel
theorem dX3_extend_54 : decode cX3_extend 54 = .ok (.ifCond .eq 47, 3) := by decide +kernel
theorem dX3_extend_57 : decode cX3_extend 57 = .ok (.lload 5, 2) := by decide +kernel
theorem dX3_extend_59 : decode cX3_extend 59 = .ok (.lload 5, 2) := by decide +kernel
theorem dX3_extend_61 : decode cX3_extend 61 = .ok (.lneg, 1) := by decide +kernel
theorem dX3_extend_62 : decode cX3_extend 62 = .ok (.land, 1) := by decide +kernel
theorem dX3_extend_63 : decode cX3_extend 63 = .ok (.lstore 8, 2) := by decide +kernel
theorem dX3_extend_65 : decode cX3_extend 65 = .ok (.lload 5, 2) := by decide +kernel
theorem dX3_extend_67 : decode cX3_extend 67 = .ok (.lload 8, 2) := by decide +kernel
theorem dX3_extend_69 : decode cX3_extend 69 = .ok (.lxor, 1) := by decide +kernel
theorem dX3_extend_70 : decode cX3_extend 70 = .ok (.lstore 5, 2) := by decide +kernel
theorem dX3_extend_72 : decode cX3_extend 72 = .ok (.aload_n 0, 1) := by decide +kernel
theorem dX3_extend_73 : decode cX3_extend 73 = .ok (.iload_n 3, 1) := by decide +kernel
theorem dX3_extend_74 : decode cX3_extend 74 = .ok (.aload_n 0, 1) := by decide +kernel
theorem dX3_extend_75 : decode cX3_extend 75 = .ok (.iload 4, 2) := by decide +kernel
theorem dX3_extend_77 : decode cX3_extend 77 = .ok (.bipush 64, 2) := by decide +kernel
theorem dX3_extend_79 : decode cX3_extend 79 = .ok (.imul, 1) := by decide +kernel
theorem dX3_extend_80 : decode cX3_extend 80 = .ok (.lload 8, 2) := by decide +kernel
theorem dX3_extend_82 : decode cX3_extend 82 = .ok (.lconst 1, 1) := by decide +kernel
theorem dX3_extend_83 : decode cX3_extend 83 = .ok (.lsub, 1) := by decide +kernel
theorem dX3_extend_84 : decode cX3_extend 84 = .ok (.invokestatic 87, 3) := by decide +kernel
theorem dX3_extend_87 : decode cX3_extend 87 = .ok (.iadd, 1) := by decide +kernel
theorem dX3_extend_88 : decode cX3_extend 88 = .ok (.iload_n 2, 1) := by decide +kernel
theorem dX3_extend_89 : decode cX3_extend 89 = .ok (.invokevirtual 93, 3) := by decide +kernel
theorem dX3_extend_92 : decode cX3_extend 92 = .ok (.invokevirtual 36, 3) := by decide +kernel
theorem dX3_extend_95 : decode cX3_extend 95 = .ok (.iinc 7 1, 3) := by decide +kernel
theorem dX3_extend_98 : decode cX3_extend 98 = .ok (.goto (-55), 3) := by decide +kernel
theorem dX3_extend_101 : decode cX3_extend 101 = .ok (.iinc 4 1, 3) := by decide +kernel
theorem dX3_extend_104 : decode cX3_extend 104 = .ok (.goto (-83), 3) := by decide +kernel
theorem dX3_extend_107 : decode cX3_extend 107 = .ok (.return_, 1) := by decide +kernel
theorem dX3_countReached_0 : decode cX3_countReached 0 = .ok (.iconst 0, 1) := by decide +kernel
theorem dX3_countReached_1 : decode cX3_countReached 1 = .ok (.istore_n 1, 1) := by decide +kernel
theorem dX3_countReached_2 : decode cX3_countReached 2 = .ok (.iconst 0, 1) := by decide +kernel
theorem dX3_countReached_3 : decode cX3_countReached 3 = .ok (.istore_n 2, 1) := by decide +kernel
theorem dX3_countReached_4 : decode cX3_countReached 4 = .ok (.iload_n 2, 1) := by decide +kernel
theorem dX3_countReached_5 : decode cX3_countReached 5 = .ok (.bipush 120, 2) := by decide +kernel
theorem dX3_countReached_7 : decode cX3_countReached 7 = .ok (.if_icmp .ge 25, 3) := by decide +kernel
theorem dX3_countReached_10 : decode cX3_countReached 10 = .ok (.iload_n 1, 1) := by decide +kernel
theorem dX3_countReached_11 : decode cX3_countReached 11 = .ok (.aload_n 0, 1) := by decide +kernel
theorem dX3_countReached_12 : decode cX3_countReached 12 = .ok (.iload_n 2, 1) := by decide +kernel
theorem dX3_countReached_13 : decode cX3_countReached 13 = .ok (.invokevirtual 96, 3) := by decide +kernel
theorem dX3_countReached_16 : decode cX3_countReached 16 = .ok (.ifCond .eq 7, 3) := by decide +kernel
theorem dX3_countReached_19 : decode cX3_countReached 19 = .ok (.iconst 1, 1) := by decide +kernel
theorem dX3_countReached_20 : decode cX3_countReached 20 = .ok (.goto 4, 3) := by decide +kernel
theorem dX3_countReached_23 : decode cX3_countReached 23 = .ok (.iconst 0, 1) := by decide +kernel
theorem dX3_countReached_24 : decode cX3_countReached 24 = .ok (.iadd, 1) := by decide +kernel
theorem dX3_countReached_25 : decode cX3_countReached 25 = .ok (.istore_n 1, 1) := by decide +kernel
theorem dX3_countReached_26 : decode cX3_countReached 26 = .ok (.iinc 2 1, 3) := by decide +kernel
theorem dX3_countReached_29 : decode cX3_countReached 29 = .ok (.goto (-25), 3) := by decide +kernel
theorem dX3_countReached_32 : decode cX3_countReached 32 = .ok (.iload_n 1, 1) := by decide +kernel
theorem dX3_countReached_33 : decode cX3_countReached 33 = .ok (.ireturn, 1) := by decide +kernel
theorem dX3_isReached_0 : decode cX3_isReached 0 = .ok (.iconst 1, 1) := by decide +kernel
theorem dX3_isReached_1 : decode cX3_isReached 1 = .ok (.istore_n 2, 1) := by decide +kernel
theorem dX3_isReached_2 : decode cX3_isReached 2 = .ok (.iload_n 2, 1) := by decide +kernel
theorem dX3_isReached_3 : decode cX3_isReached 3 = .ok (.aload_n 0, 1) := by decide +kernel
theorem dX3_isReached_4 : decode cX3_isReached 4 = .ok (.getfield 40, 3) := by decide +kernel
theorem dX3_isReached_7 : decode cX3_isReached 7 = .ok (.if_icmp .ge 20, 3) := by decide +kernel
theorem dX3_isReached_10 : decode cX3_isReached 10 = .ok (.aload_n 0, 1) := by decide +kernel
theorem dX3_isReached_11 : decode cX3_isReached 11 = .ok (.iload_n 2, 1) := by decide +kernel
theorem dX3_isReached_12 : decode cX3_isReached 12 = .ok (.iload_n 1, 1) := by decide +kernel
theorem dX3_isReached_13 : decode cX3_isReached 13 = .ok (.invokevirtual 100, 3) := by decide +kernel
theorem dX3_isReached_16 : decode cX3_isReached 16 = .ok (.ifCond .eq 5, 3) := by decide +kernel
theorem dX3_isReached_19 : decode cX3_isReached 19 = .ok (.iconst 1, 1) := by decide +kernel
theorem dX3_isReached_20 : decode cX3_isReached 20 = .ok (.ireturn, 1) := by decide +kernel
theorem dX3_isReached_21 : decode cX3_isReached 21 = .ok (.iinc 2 1, 3) := by decide +kernel
theorem dX3_isReached_24 : decode cX3_isReached 24 = .ok (.goto (-22), 3) := by decide +kernel
theorem dX3_isReached_27 : decode cX3_isReached 27 = .ok (.iconst 0, 1) := by decide +kernel
theorem dX3_isReached_28 : decode cX3_isReached 28 = .ok (.ireturn, 1) := by decide +kernel
theorem dX3_fewestCardsFor_0 : decode cX3_fewestCardsFor 0 = .ok (.iconst (-1), 1) := by decide +kernel
theorem dX3_fewestCardsFor_1 : decode cX3_fewestCardsFor 1 = .ok (.istore_n 2, 1) := by decide +kernel
theorem dX3_fewestCardsFor_2 : decode cX3_fewestCardsFor 2 = .ok (.iconst 1, 1) := by decide +kernel
theorem dX3_fewestCardsFor_3 : decode cX3_fewestCardsFor 3 = .ok (.istore_n 3, 1) := by decide +kernel
theorem dX3_fewestCardsFor_4 : decode cX3_fewestCardsFor 4 = .ok (.iload_n 3, 1) := by decide +kernel
theorem dX3_fewestCardsFor_5 : decode cX3_fewestCardsFor 5 = .ok (.aload_n 0, 1) := by decide +kernel
theorem dX3_fewestCardsFor_6 : decode cX3_fewestCardsFor 6 = .ok (.getfield 40, 3) := by decide +kernel
theorem dX3_fewestCardsFor_9 : decode cX3_fewestCardsFor 9 = .ok (.if_icmp .ge 38, 3) := by decide +kernel
theorem dX3_fewestCardsFor_12 : decode cX3_fewestCardsFor 12 = .ok (.iload_n 3, 1) := by decide +kernel
theorem dX3_fewestCardsFor_13 : decode cX3_fewestCardsFor 13 = .ok (.invokestatic 112, 3) := by decide +kernel
theorem dX3_fewestCardsFor_16 : decode cX3_fewestCardsFor 16 = .ok (.istore 4, 2) := by decide +kernel
theorem dX3_fewestCardsFor_18 : decode cX3_fewestCardsFor 18 = .ok (.aload_n 0, 1) := by decide +kernel
theorem dX3_fewestCardsFor_19 : decode cX3_fewestCardsFor 19 = .ok (.iload_n 3, 1) := by decide +kernel
theorem dX3_fewestCardsFor_20 : decode cX3_fewestCardsFor 20 = .ok (.iload_n 1, 1) := by decide +kernel
theorem dX3_fewestCardsFor_21 : decode cX3_fewestCardsFor 21 = .ok (.invokevirtual 100, 3) := by decide +kernel
theorem dX3_fewestCardsFor_24 : decode cX3_fewestCardsFor 24 = .ok (.ifCond .eq 17, 3) := by decide +kernel
theorem dX3_fewestCardsFor_27 : decode cX3_fewestCardsFor 27 = .ok (.iload_n 2, 1) := by decide +kernel
theorem dX3_fewestCardsFor_28 : decode cX3_fewestCardsFor 28 = .ok (.iconst (-1), 1) := by decide +kernel
theorem dX3_fewestCardsFor_29 : decode cX3_fewestCardsFor 29 = .ok (.if_icmp .eq 9, 3) := by decide +kernel
theorem dX3_fewestCardsFor_32 : decode cX3_fewestCardsFor 32 = .ok (.iload 4, 2) := by decide +kernel
theorem dX3_fewestCardsFor_34 : decode cX3_fewestCardsFor 34 = .ok (.iload_n 2, 1) := by decide +kernel
theorem dX3_fewestCardsFor_35 : decode cX3_fewestCardsFor 35 = .ok (.if_icmp .ge 6, 3) := by decide +kernel
theorem dX3_fewestCardsFor_38 : decode cX3_fewestCardsFor 38 = .ok (.iload 4, 2) := by decide +kernel
theorem dX3_fewestCardsFor_40 : decode cX3_fewestCardsFor 40 = .ok (.istore_n 2, 1) := by decide +kernel
theorem dX3_fewestCardsFor_41 : decode cX3_fewestCardsFor 41 = .ok (.iinc 3 1, 3) := by decide +kernel
theorem dX3_fewestCardsFor_44 : decode cX3_fewestCardsFor 44 = .ok (.goto (-40), 3) := by decide +kernel
theorem dX3_fewestCardsFor_47 : decode cX3_fewestCardsFor 47 = .ok (.iload_n 2, 1) := by decide +kernel
theorem dX3_fewestCardsFor_48 : decode cX3_fewestCardsFor 48 = .ok (.ireturn, 1) := by decide +kernel
theorem dX4_init_0 : decode cX4_init 0 = .ok (.aload_n 0, 1) := by decide +kernel
theorem dX4_init_1 : decode cX4_init 1 = .ok (.invokespecial 3, 3) := by decide +kernel
theorem dX4_init_4 : decode cX4_init 4 = .ok (.aload_n 0, 1) := by decide +kernel
theorem dX4_init_5 : decode cX4_init 5 = .ok (.bipush 8, 2) := by decide +kernel
theorem dX4_init_7 : decode cX4_init 7 = .ok (.anewarray 9, 3) := by decide +kernel
theorem dX4_init_10 : decode cX4_init 10 = .ok (.putfield 11, 3) := by decide +kernel
theorem dX4_init_13 : decode cX4_init 13 = .ok (.iconst 0, 1) := by decide +kernel
theorem dX4_init_14 : decode cX4_init 14 = .ok (.istore_n 2, 1) := by decide +kernel
theorem dX4_init_15 : decode cX4_init 15 = .ok (.iload_n 2, 1) := by decide +kernel
theorem dX4_init_16 : decode cX4_init 16 = .ok (.bipush 8, 2) := by decide +kernel
theorem dX4_init_18 : decode cX4_init 18 = .ok (.if_icmp .ge 23, 3) := by decide +kernel
theorem dX4_init_21 : decode cX4_init 21 = .ok (.aload_n 0, 1) := by decide +kernel
theorem dX4_init_22 : decode cX4_init 22 = .ok (.getfield 11, 3) := by decide +kernel
theorem dX4_init_25 : decode cX4_init 25 = .ok (.iload_n 2, 1) := by decide +kernel
theorem dX4_init_26 : decode cX4_init 26 = .ok (.new 9, 3) := by decide +kernel
theorem dX4_init_29 : decode cX4_init 29 = .ok (.dup, 1) := by decide +kernel
theorem dX4_init_30 : decode cX4_init 30 = .ok (.aload_n 1, 1) := by decide +kernel
theorem dX4_init_31 : decode cX4_init 31 = .ok (.invokespecial 17, 3) := by decide +kernel
theorem dX4_init_34 : decode cX4_init 34 = .ok (.aastore, 1) := by decide +kernel
theorem dX4_init_35 : decode cX4_init 35 = .ok (.iinc 2 1, 3) := by decide +kernel
theorem dX4_init_38 : decode cX4_init 38 = .ok (.goto (-23), 3) := by decide +kernel
theorem dX4_init_41 : decode cX4_init 41 = .ok (.return_, 1) := by decide +kernel
theorem dX4_size_0 : decode cX4_size 0 = .ok (.aload_n 0, 1) := by decide +kernel
theorem dX4_size_1 : decode cX4_size 1 = .ok (.getfield 20, 3) := by decide +kernel
theorem dX4_size_4 : decode cX4_size 4 = .ok (.ireturn, 1) := by decide +kernel
theorem dX4_placeOf_0 : decode cX4_placeOf 0 = .ok (.aload_n 0, 1) := by decide +kernel
theorem dX4_placeOf_1 : decode cX4_placeOf 1 = .ok (.getfield 24, 3) := by decide +kernel
theorem dX4_placeOf_4 : decode cX4_placeOf 4 = .ok (.iload_n 1, 1) := by decide +kernel
theorem dX4_placeOf_5 : decode cX4_placeOf 5 = .ok (.iadd, 1) := by decide +kernel
theorem dX4_placeOf_6 : decode cX4_placeOf 6 = .ok (.bipush 8, 2) := by decide +kernel
theorem dX4_placeOf_8 : decode cX4_placeOf 8 = .ok (.invokestatic 27, 3) := by decide +kernel
theorem dX4_placeOf_11 : decode cX4_placeOf 11 = .ok (.ireturn, 1) := by decide +kernel
theorem dX4_remember_0 : decode cX4_remember 0 = .ok (.aload_n 0, 1) := by decide +kernel
theorem dX4_remember_1 : decode cX4_remember 1 = .ok (.getfield 20, 3) := by decide +kernel
theorem dX4_remember_4 : decode cX4_remember 4 = .ok (.bipush 8, 2) := by decide +kernel
theorem dX4_remember_6 : decode cX4_remember 6 = .ok (.if_icmp .lt 18, 3) := by decide +kernel
theorem dX4_remember_9 : decode cX4_remember 9 = .ok (.aload_n 0, 1) := by decide +kernel
theorem dX4_remember_10 : decode cX4_remember 10 = .ok (.aload_n 0, 1) := by decide +kernel
theorem dX4_remember_11 : decode cX4_remember 11 = .ok (.iconst 1, 1) := by decide +kernel
theorem dX4_remember_12 : decode cX4_remember 12 = .ok (.invokevirtual 33, 3) := by decide +kernel
theorem dX4_remember_15 : decode cX4_remember 15 = .ok (.putfield 24, 3) := by decide +kernel
theorem dX4_remember_18 : decode cX4_remember 18 = .ok (.aload_n 0, 1) := by decide +kernel
theorem dX4_remember_19 : decode cX4_remember 19 = .ok (.bipush 7, 2) := by decide +kernel
theorem dX4_remember_21 : decode cX4_remember 21 = .ok (.putfield 20, 3) := by decide +kernel
theorem dX4_remember_24 : decode cX4_remember 24 = .ok (.aload_n 0, 1) := by decide +kernel
theorem dX4_remember_25 : decode cX4_remember 25 = .ok (.getfield 11, 3) := by decide +kernel
theorem dX4_remember_28 : decode cX4_remember 28 = .ok (.aload_n 0, 1) := by decide +kernel
theorem dX4_remember_29 : decode cX4_remember 29 = .ok (.aload_n 0, 1) := by decide +kernel
theorem dX4_remember_30 : decode cX4_remember 30 = .ok (.getfield 20, 3) := by decide +kernel
theorem dX4_remember_33 : decode cX4_remember 33 = .ok (.invokevirtual 33, 3) := by decide +kernel
theorem dX4_remember_36 : decode cX4_remember 36 = .ok (.aaload, 1) := by decide +kernel
theorem dX4_remember_37 : decode cX4_remember 37 = .ok (.aload_n 1, 1) := by decide +kernel
theorem dX4_remember_38 : decode cX4_remember 38 = .ok (.invokevirtual 37, 3) := by decide +kernel
theorem dX4_remember_41 : decode cX4_remember 41 = .ok (.aload_n 0, 1) := by decide +kernel
theorem dX4_remember_42 : decode cX4_remember 42 = .ok (.dup, 1) := by decide +kernel
theorem dX4_remember_43 : decode cX4_remember 43 = .ok (.getfield 20, 3) := by decide +kernel
theorem dX4_remember_46 : decode cX4_remember 46 = .ok (.iconst 1, 1) := by decide +kernel
theorem dX4_remember_47 : decode cX4_remember 47 = .ok (.iadd, 1) := by decide +kernel
theorem dX4_remember_48 : decode cX4_remember 48 = .ok (.putfield 20, 3) := by decide +kernel
theorem dX4_remember_51 : decode cX4_remember 51 = .ok (.return_, 1) := by decide +kernel
theorem dX4_bringBack_0 : decode cX4_bringBack 0 = .ok (.aload_n 0, 1) := by decide +kernel
theorem dX4_bringBack_1 : decode cX4_bringBack 1 = .ok (.getfield 20, 3) := by decide +kernel
theorem dX4_bringBack_4 : decode cX4_bringBack 4 = .ok (.ifCond .le 30, 3) := by decide +kernel
theorem dX4_bringBack_7 : decode cX4_bringBack 7 = .ok (.aload_n 0, 1) := by decide +kernel
theorem dX4_bringBack_8 : decode cX4_bringBack 8 = .ok (.dup, 1) := by decide +kernel
theorem dX4_bringBack_9 : decode cX4_bringBack 9 = .ok (.getfield 20, 3) := by decide +kernel
theorem dX4_bringBack_12 : decode cX4_bringBack 12 = .ok (.iconst 1, 1) := by decide +kernel
theorem dX4_bringBack_13 : decode cX4_bringBack 13 = .ok (.isub, 1) := by decide +kernel
theorem dX4_bringBack_14 : decode cX4_bringBack 14 = .ok (.putfield 20, 3) := by decide +kernel
theorem dX4_bringBack_17 : decode cX4_bringBack 17 = .ok (.aload_n 1, 1) := by decide +kernel
theorem dX4_bringBack_18 : decode cX4_bringBack 18 = .ok (.aload_n 0, 1) := by decide +kernel
theorem dX4_bringBack_19 : decode cX4_bringBack 19 = .ok (.getfield 11, 3) := by decide +kernel
theorem dX4_bringBack_22 : decode cX4_bringBack 22 = .ok (.aload_n 0, 1) := by decide +kernel
theorem dX4_bringBack_23 : decode cX4_bringBack 23 = .ok (.aload_n 0, 1) := by decide +kernel
theorem dX4_bringBack_24 : decode cX4_bringBack 24 = .ok (.getfield 20, 3) := by decide +kernel
theorem dX4_bringBack_27 : decode cX4_bringBack 27 = .ok (.invokevirtual 33, 3) := by decide +kernel
theorem dX4_bringBack_30 : decode cX4_bringBack 30 = .ok (.aaload, 1) := by decide +kernel
theorem dX4_bringBack_31 : decode cX4_bringBack 31 = .ok (.invokevirtual 37, 3) := by decide +kernel
theorem dX4_bringBack_34 : decode cX4_bringBack 34 = .ok (.return_, 1) := by decide +kernel
theorem dX5_init_0 : decode cX5_init 0 = .ok (.aload_n 0, 1) := by decide +kernel
theorem dX5_init_1 : decode cX5_init 1 = .ok (.invokespecial 3, 3) := by decide +kernel
theorem dX5_init_4 : decode cX5_init 4 = .ok (.aload_n 0, 1) := by decide +kernel
theorem dX5_init_5 : decode cX5_init 5 = .ok (.aload_n 1, 1) := by decide +kernel
theorem dX5_init_6 : decode cX5_init 6 = .ok (.putfield 9, 3) := by decide +kernel
theorem dX5_init_9 : decode cX5_init 9 = .ok (.aload_n 0, 1) := by decide +kernel
theorem dX5_init_10 : decode cX5_init 10 = .ok (.bipush 11, 2) := by decide +kernel
theorem dX5_init_12 : decode cX5_init 12 = .ok (.newarray .long, 2) := by decide +kernel
theorem dX5_init_14 : decode cX5_init 14 = .ok (.putfield 15, 3) := by decide +kernel
theorem dX5_init_17 : decode cX5_init 17 = .ok (.return_, 1) := by decide +kernel
theorem dX5_price_0 : decode cX5_price 0 = .ok (.iconst 0, 1) := by decide +kernel
theorem dX5_price_1 : decode cX5_price 1 = .ok (.istore 5, 2) := by decide +kernel
theorem dX5_price_3 : decode cX5_price 3 = .ok (.iconst 0, 1) := by decide +kernel
theorem dX5_price_4 : decode cX5_price 4 = .ok (.istore 6, 2) := by decide +kernel
theorem dX5_price_6 : decode cX5_price 6 = .ok (.iload 6, 2) := by decide +kernel
theorem dX5_price_8 : decode cX5_price 8 = .ok (.aload_n 0, 1) := by decide +kernel
theorem dX5_price_9 : decode cX5_price 9 = .ok (.getfield 9, 3) := by decide +kernel
theorem dX5_price_12 : decode cX5_price 12 = .ok (.arraylength, 1) := by decide +kernel
theorem dX5_price_13 : decode cX5_price 13 = .ok (.if_icmp .ge 102, 3) := by decide +kernel
theorem dX5_price_16 : decode cX5_price 16 = .ok (.aload_n 0, 1) := by decide +kernel
theorem dX5_price_17 : decode cX5_price 17 = .ok (.getfield 9, 3) := by decide +kernel
theorem dX5_price_20 : decode cX5_price 20 = .ok (.iload 6, 2) := by decide +kernel
theorem dX5_price_22 : decode cX5_price 22 = .ok (.iaload, 1) := by decide +kernel
theorem dX5_price_23 : decode cX5_price 23 = .ok (.istore 7, 2) := by decide +kernel
theorem dX5_price_25 : decode cX5_price 25 = .ok (.iload 7, 2) := by decide +kernel
theorem dX5_price_27 : decode cX5_price 27 = .ok (.bipush (-5), 2) := by decide +kernel
theorem dX5_price_29 : decode cX5_price 29 = .ok (.if_icmp .gt 52, 3) := by decide +kernel
theorem dX5_price_32 : decode cX5_price 32 = .ok (.iload 5, 2) := by decide +kernel
theorem dX5_price_34 : decode cX5_price 34 = .ok (.iconst 2, 1) := by decide +kernel
theorem dX5_price_35 : decode cX5_price 35 = .ok (.if_icmp .lt 74, 3) := by decide +kernel
theorem dX5_price_38 : decode cX5_price 38 = .ok (.iload 5, 2) := by decide +kernel
theorem dX5_price_40 : decode cX5_price 40 = .ok (.bipush 11, 2) := by decide +kernel
theorem dX5_price_42 : decode cX5_price 42 = .ok (.if_icmp .gt 67, 3) := by decide +kernel
theorem dX5_price_45 : decode cX5_price 45 = .ok (.iinc 5 (-1), 3) := by decide +kernel
theorem dX5_price_48 : decode cX5_price 48 = .ok (.aload_n 0, 1) := by decide +kernel
theorem dX5_price_49 : decode cX5_price 49 = .ok (.getfield 15, 3) := by decide +kernel
theorem dX5_price_52 : decode cX5_price 52 = .ok (.iload 5, 2) := by decide +kernel
theorem dX5_price_54 : decode cX5_price 54 = .ok (.iconst 1, 1) := by decide +kernel
theorem dX5_price_55 : decode cX5_price 55 = .ok (.isub, 1) := by decide +kernel
theorem dX5_price_56 : decode cX5_price 56 = .ok (.iload 7, 2) := by decide +kernel
theorem dX5_price_58 : decode cX5_price 58 = .ok (.aload_n 0, 1) := by decide +kernel
theorem dX5_price_59 : decode cX5_price 59 = .ok (.getfield 15, 3) := by decide +kernel
theorem dX5_price_62 : decode cX5_price 62 = .ok (.iload 5, 2) := by decide +kernel
theorem dX5_price_64 : decode cX5_price 64 = .ok (.iconst 1, 1) := by decide +kernel
theorem dX5_price_65 : decode cX5_price 65 = .ok (.isub, 1) := by decide +kernel
theorem dX5_price_66 : decode cX5_price 66 = .ok (.laload, 1) := by decide +kernel
theorem dX5_price_67 : decode cX5_price 67 = .ok (.aload_n 0, 1) := by decide +kernel
theorem dX5_price_68 : decode cX5_price 68 = .ok (.getfield 15, 3) := by decide +kernel
theorem dX5_price_71 : decode cX5_price 71 = .ok (.iload 5, 2) := by decide +kernel
theorem dX5_price_73 : decode cX5_price 73 = .ok (.laload, 1) := by decide +kernel
theorem dX5_price_74 : decode cX5_price 74 = .ok (.invokestatic 19, 3) := by decide +kernel
theorem dX5_price_77 : decode cX5_price 77 = .ok (.lastore, 1) := by decide +kernel
theorem dX5_price_78 : decode cX5_price 78 = .ok (.goto 31, 3) := by decide +kernel
theorem dX5_price_81 : decode cX5_price 81 = .ok (.iload 5, 2) := by decide +kernel
theorem dX5_price_83 : decode cX5_price 83 = .ok (.bipush 11, 2) := by decide +kernel
theorem dX5_price_85 : decode cX5_price 85 = .ok (.if_icmp .ge 24, 3) := by decide +kernel
theorem dX5_price_88 : decode cX5_price 88 = .ok (.aload_n 0, 1) := by decide +kernel
theorem dX5_price_89 : decode cX5_price 89 = .ok (.getfield 15, 3) := by decide +kernel
theorem dX5_price_92 : decode cX5_price 92 = .ok (.iload 5, 2) := by decide +kernel
theorem dX5_price_94 : decode cX5_price 94 = .ok (.iload 7, 2) := by decide +kernel
theorem dX5_price_96 : decode cX5_price 96 = .ok (.iload_n 1, 1) := by decide +kernel
theorem dX5_price_97 : decode cX5_price 97 = .ok (.iload_n 2, 1) := by decide +kernel
theorem dX5_price_98 : decode cX5_price 98 = .ok (.iload_n 3, 1) := by decide +kernel
theorem dX5_price_99 : decode cX5_price 99 = .ok (.iload 4, 2) := by decide +kernel
theorem dX5_price_101 : decode cX5_price 101 = .ok (.invokestatic 23, 3) := by decide +kernel
theorem dX5_price_104 : decode cX5_price 104 = .ok (.i2l, 1) := by decide +kernel
theorem dX5_price_105 : decode cX5_price 105 = .ok (.lastore, 1) := by decide +kernel
theorem dX5_price_106 : decode cX5_price 106 = .ok (.iinc 5 1, 3) := by decide +kernel
theorem dX5_price_109 : decode cX5_price 109 = .ok (.iinc 6 1, 3) := by decide +kernel
theorem dX5_price_112 : decode cX5_price 112 = .ok (.goto (-106), 3) := by decide +kernel
theorem dX5_price_115 : decode cX5_price 115 = .ok (.lconst 0, 1) := by decide +kernel
theorem dX5_price_116 : decode cX5_price 116 = .ok (.ldc2_w 27, 3) := by decide +kernel
theorem dX5_price_119 : decode cX5_price 119 = .ok (.aload_n 0, 1) := by decide +kernel
theorem dX5_price_120 : decode cX5_price 120 = .ok (.getfield 15, 3) := by decide +kernel
theorem dX5_price_123 : decode cX5_price 123 = .ok (.iconst 0, 1) := by decide +kernel
theorem dX5_price_124 : decode cX5_price 124 = .ok (.laload, 1) := by decide +kernel
theorem dX5_price_125 : decode cX5_price 125 = .ok (.invokestatic 29, 3) := by decide +kernel
theorem dX5_price_128 : decode cX5_price 128 = .ok (.invokestatic 35, 3) := by decide +kernel
theorem dX5_price_131 : decode cX5_price 131 = .ok (.l2i, 1) := by decide +kernel
theorem dX5_price_132 : decode cX5_price 132 = .ok (.ireturn, 1) := by decide +kernel
theorem dX5_operand_0 : decode cX5_operand 0 = .ok (.iload_n 0, 1) := by decide +kernel
theorem dX5_operand_1 : decode cX5_operand 1 = .ok (.tableswitch 40 (-4) (-1) #[37, 35, 33, 31], 31) := by decide +kernel
theorem dX5_operand_32 : decode cX5_operand 32 = .ok (.iload_n 1, 1) := by decide +kernel
theorem dX5_operand_33 : decode cX5_operand 33 = .ok (.ireturn, 1) := by decide +kernel
theorem dX5_operand_34 : decode cX5_operand 34 = .ok (.iload_n 2, 1) := by decide +kernel
theorem dX5_operand_35 : decode cX5_operand 35 = .ok (.ireturn, 1) := by decide +kernel
theorem dX5_operand_36 : decode cX5_operand 36 = .ok (.iload_n 3, 1) := by decide +kernel
theorem dX5_operand_37 : decode cX5_operand 37 = .ok (.ireturn, 1) := by decide +kernel
theorem dX5_operand_38 : decode cX5_operand 38 = .ok (.iload 4, 2) := by decide +kernel
theorem dX5_operand_40 : decode cX5_operand 40 = .ok (.ireturn, 1) := by decide +kernel
theorem dX5_operand_41 : decode cX5_operand 41 = .ok (.iload_n 0, 1) := by decide +kernel
theorem dX5_operand_42 : decode cX5_operand 42 = .ok (.ireturn, 1) := by decide +kernel
theorem dX5_result_0 : decode cX5_result 0 = .ok (.iload_n 0, 1) := by decide +kernel
theorem dX5_result_1 : decode cX5_result 1 = .ok (.tableswitch 51 (-7) (-5) #[43, 35, 27], 27) := by decide +kernel
theorem dX5_result_28 : decode cX5_result 28 = .ok (.lload_n 1, 1) := by decide +kernel
theorem dX5_result_29 : decode cX5_result 29 = .ok (.lload_n 3, 1) := by decide +kernel
theorem dX5_result_30 : decode cX5_result 30 = .ok (.ladd, 1) := by decide +kernel
theorem dX5_result_31 : decode cX5_result 31 = .ok (.lstore 5, 2) := by decide +kernel
theorem dX5_result_33 : decode cX5_result 33 = .ok (.goto 34, 3) := by decide +kernel
theorem dX5_result_36 : decode cX5_result 36 = .ok (.lload_n 1, 1) := by decide +kernel
theorem dX5_result_37 : decode cX5_result 37 = .ok (.lload_n 3, 1) := by decide +kernel
theorem dX5_result_38 : decode cX5_result 38 = .ok (.lsub, 1) := by decide +kernel
theorem dX5_result_39 : decode cX5_result 39 = .ok (.lstore 5, 2) := by decide +kernel
theorem dX5_result_41 : decode cX5_result 41 = .ok (.goto 26, 3) := by decide +kernel
theorem dX5_result_44 : decode cX5_result 44 = .ok (.lload_n 1, 1) := by decide +kernel
theorem dX5_result_45 : decode cX5_result 45 = .ok (.lload_n 3, 1) := by decide +kernel
theorem dX5_result_46 : decode cX5_result 46 = .ok (.lmul, 1) := by decide +kernel
theorem dX5_result_47 : decode cX5_result 47 = .ok (.lstore 5, 2) := by decide +kernel
theorem dX5_result_49 : decode cX5_result 49 = .ok (.goto 18, 3) := by decide +kernel
theorem dX5_result_52 : decode cX5_result 52 = .ok (.lload_n 3, 1) := by decide +kernel
theorem dX5_result_53 : decode cX5_result 53 = .ok (.lconst 0, 1) := by decide +kernel
theorem dX5_result_54 : decode cX5_result 54 = .ok (.lcmp, 1) := by decide +kernel
theorem dX5_result_55 : decode cX5_result 55 = .ok (.ifCond .ne 7, 3) := by decide +kernel
theorem dX5_result_58 : decode cX5_result 58 = .ok (.lconst 0, 1) := by decide +kernel
theorem dX5_result_59 : decode cX5_result 59 = .ok (.goto 6, 3) := by decide +kernel
theorem dX5_result_62 : decode cX5_result 62 = .ok (.lload_n 1, 1) := by decide +kernel
theorem dX5_result_63 : decode cX5_result 63 = .ok (.lload_n 3, 1) := by decide +kernel
theorem dX5_result_64 : decode cX5_result 64 = .ok (.ldiv, 1) := by decide +kernel
theorem dX5_result_65 : decode cX5_result 65 = .ok (.lstore 5, 2) := by decide +kernel
theorem dX5_result_67 : decode cX5_result 67 = .ok (.ldc2_w 38, 3) := by decide +kernel
theorem dX5_result_70 : decode cX5_result 70 = .ok (.ldc2_w 40, 3) := by decide +kernel
theorem dX5_result_73 : decode cX5_result 73 = .ok (.lload 5, 2) := by decide +kernel
theorem dX5_result_75 : decode cX5_result 75 = .ok (.invokestatic 29, 3) := by decide +kernel
theorem dX5_result_78 : decode cX5_result 78 = .ok (.invokestatic 35, 3) := by decide +kernel
theorem dX5_result_81 : decode cX5_result 81 = .ok (.lreturn, 1) := by decide +kernel
theorem dX6_init_0 : decode cX6_init 0 = .ok (.aload_n 0, 1) := by decide +kernel
theorem dX6_init_1 : decode cX6_init 1 = .ok (.invokespecial 1, 3) := by decide +kernel
theorem dX6_init_4 : decode cX6_init 4 = .ok (.aload_n 0, 1) := by decide +kernel
theorem dX6_init_5 : decode cX6_init 5 = .ok (.iload_n 1, 1) := by decide +kernel
theorem dX6_init_6 : decode cX6_init 6 = .ok (.iconst 0, 1) := by decide +kernel
theorem dX6_init_7 : decode cX6_init 7 = .ok (.invokestatic 7, 3) := by decide +kernel
theorem dX6_init_10 : decode cX6_init 10 = .ok (.newarray .int, 2) := by decide +kernel
theorem dX6_init_12 : decode cX6_init 12 = .ok (.putfield 13, 3) := by decide +kernel
theorem dX6_init_15 : decode cX6_init 15 = .ok (.aload_n 0, 1) := by decide +kernel
theorem dX6_init_16 : decode cX6_init 16 = .ok (.iconst 0, 1) := by decide +kernel
theorem dX6_init_17 : decode cX6_init 17 = .ok (.putfield 19, 3) := by decide +kernel
theorem dX6_init_20 : decode cX6_init 20 = .ok (.return_, 1) := by decide +kernel
theorem dX6_size_0 : decode cX6_size 0 = .ok (.aload_n 0, 1) := by decide +kernel
theorem dX6_size_1 : decode cX6_size 1 = .ok (.getfield 19, 3) := by decide +kernel
theorem dX6_size_4 : decode cX6_size 4 = .ok (.ireturn, 1) := by decide +kernel
theorem dX6_isFull_0 : decode cX6_isFull 0 = .ok (.aload_n 0, 1) := by decide +kernel
theorem dX6_isFull_1 : decode cX6_isFull 1 = .ok (.getfield 19, 3) := by decide +kernel
theorem dX6_isFull_4 : decode cX6_isFull 4 = .ok (.aload_n 0, 1) := by decide +kernel
theorem dX6_isFull_5 : decode cX6_isFull 5 = .ok (.getfield 13, 3) := by decide +kernel
theorem dX6_isFull_8 : decode cX6_isFull 8 = .ok (.arraylength, 1) := by decide +kernel
theorem dX6_isFull_9 : decode cX6_isFull 9 = .ok (.if_icmp .lt 7, 3) := by decide +kernel
theorem dX6_isFull_12 : decode cX6_isFull 12 = .ok (.iconst 1, 1) := by decide +kernel
theorem dX6_isFull_13 : decode cX6_isFull 13 = .ok (.goto 4, 3) := by decide +kernel
theorem dX6_isFull_16 : decode cX6_isFull 16 = .ok (.iconst 0, 1) := by decide +kernel
theorem dX6_isFull_17 : decode cX6_isFull 17 = .ok (.ireturn, 1) := by decide +kernel
theorem dX6_holds_0 : decode cX6_holds 0 = .ok (.iload_n 1, 1) := by decide +kernel
theorem dX6_holds_1 : decode cX6_holds 1 = .ok (.ifCond .lt 24, 3) := by decide +kernel
theorem dX6_holds_4 : decode cX6_holds 4 = .ok (.iload_n 1, 1) := by decide +kernel
theorem dX6_holds_5 : decode cX6_holds 5 = .ok (.aload_n 0, 1) := by decide +kernel
theorem dX6_holds_6 : decode cX6_holds 6 = .ok (.getfield 19, 3) := by decide +kernel
theorem dX6_holds_9 : decode cX6_holds 9 = .ok (.if_icmp .ge 16, 3) := by decide +kernel
theorem dX6_holds_12 : decode cX6_holds 12 = .ok (.iload_n 1, 1) := by decide +kernel
theorem dX6_holds_13 : decode cX6_holds 13 = .ok (.aload_n 0, 1) := by decide +kernel
theorem dX6_holds_14 : decode cX6_holds 14 = .ok (.getfield 13, 3) := by decide +kernel
theorem dX6_holds_17 : decode cX6_holds 17 = .ok (.arraylength, 1) := by decide +kernel
theorem dX6_holds_18 : decode cX6_holds 18 = .ok (.if_icmp .ge 7, 3) := by decide +kernel
theorem dX6_holds_21 : decode cX6_holds 21 = .ok (.iconst 1, 1) := by decide +kernel
theorem dX6_holds_22 : decode cX6_holds 22 = .ok (.goto 4, 3) := by decide +kernel
theorem dX6_holds_25 : decode cX6_holds 25 = .ok (.iconst 0, 1) := by decide +kernel
theorem dX6_holds_26 : decode cX6_holds 26 = .ok (.ireturn, 1) := by decide +kernel
theorem dX6_at_0 : decode cX6_at 0 = .ok (.aload_n 0, 1) := by decide +kernel
theorem dX6_at_1 : decode cX6_at 1 = .ok (.iload_n 1, 1) := by decide +kernel
theorem dX6_at_2 : decode cX6_at 2 = .ok (.invokevirtual 23, 3) := by decide +kernel
theorem dX6_at_5 : decode cX6_at 5 = .ok (.ifCond .eq 12, 3) := by decide +kernel
theorem dX6_at_8 : decode cX6_at 8 = .ok (.aload_n 0, 1) := by decide +kernel
theorem dX6_at_9 : decode cX6_at 9 = .ok (.getfield 13, 3) := by decide +kernel
theorem dX6_at_12 : decode cX6_at 12 = .ok (.iload_n 1, 1) := by decide +kernel
theorem dX6_at_13 : decode cX6_at 13 = .ok (.iaload, 1) := by decide +kernel
theorem dX6_at_14 : decode cX6_at 14 = .ok (.goto 4, 3) := by decide +kernel
theorem dX6_at_17 : decode cX6_at 17 = .ok (.iconst 0, 1) := by decide +kernel
theorem dX6_at_18 : decode cX6_at 18 = .ok (.ireturn, 1) := by decide +kernel
theorem dX6_push_0 : decode cX6_push 0 = .ok (.aload_n 0, 1) := by decide +kernel
theorem dX6_push_1 : decode cX6_push 1 = .ok (.getfield 19, 3) := by decide +kernel
theorem dX6_push_4 : decode cX6_push 4 = .ok (.ifCond .lt 35, 3) := by decide +kernel
theorem dX6_push_7 : decode cX6_push 7 = .ok (.aload_n 0, 1) := by decide +kernel
theorem dX6_push_8 : decode cX6_push 8 = .ok (.getfield 19, 3) := by decide +kernel
theorem dX6_push_11 : decode cX6_push 11 = .ok (.aload_n 0, 1) := by decide +kernel
theorem dX6_push_12 : decode cX6_push 12 = .ok (.getfield 13, 3) := by decide +kernel
theorem dX6_push_15 : decode cX6_push 15 = .ok (.arraylength, 1) := by decide +kernel
theorem dX6_push_16 : decode cX6_push 16 = .ok (.if_icmp .ge 23, 3) := by decide +kernel
theorem dX6_push_19 : decode cX6_push 19 = .ok (.aload_n 0, 1) := by decide +kernel
theorem dX6_push_20 : decode cX6_push 20 = .ok (.getfield 13, 3) := by decide +kernel
theorem dX6_push_23 : decode cX6_push 23 = .ok (.aload_n 0, 1) := by decide +kernel
theorem dX6_push_24 : decode cX6_push 24 = .ok (.getfield 19, 3) := by decide +kernel
theorem dX6_push_27 : decode cX6_push 27 = .ok (.iload_n 1, 1) := by decide +kernel
theorem dX6_push_28 : decode cX6_push 28 = .ok (.iastore, 1) := by decide +kernel
theorem dX6_push_29 : decode cX6_push 29 = .ok (.aload_n 0, 1) := by decide +kernel
theorem dX6_push_30 : decode cX6_push 30 = .ok (.dup, 1) := by decide +kernel
theorem dX6_push_31 : decode cX6_push 31 = .ok (.getfield 19, 3) := by decide +kernel
theorem dX6_push_34 : decode cX6_push 34 = .ok (.iconst 1, 1) := by decide +kernel
theorem dX6_push_35 : decode cX6_push 35 = .ok (.iadd, 1) := by decide +kernel
theorem dX6_push_36 : decode cX6_push 36 = .ok (.putfield 19, 3) := by decide +kernel
theorem dX6_push_39 : decode cX6_push 39 = .ok (.return_, 1) := by decide +kernel
theorem dX6_remove_0 : decode cX6_remove 0 = .ok (.aload_n 0, 1) := by decide +kernel
theorem dX6_remove_1 : decode cX6_remove 1 = .ok (.iload_n 1, 1) := by decide +kernel
theorem dX6_remove_2 : decode cX6_remove 2 = .ok (.invokevirtual 23, 3) := by decide +kernel
theorem dX6_remove_5 : decode cX6_remove 5 = .ok (.ifCond .ne 4, 3) := by decide +kernel
theorem dX6_remove_8 : decode cX6_remove 8 = .ok (.return_, 1) := by decide +kernel
theorem dX6_remove_9 : decode cX6_remove 9 = .ok (.iload_n 1, 1) := by decide +kernel
theorem dX6_remove_10 : decode cX6_remove 10 = .ok (.iconst 1, 1) := by decide +kernel
theorem dX6_remove_11 : decode cX6_remove 11 = .ok (.iadd, 1) := by decide +kernel
theorem dX6_remove_12 : decode cX6_remove 12 = .ok (.istore_n 2, 1) := by decide +kernel
theorem dX6_remove_13 : decode cX6_remove 13 = .ok (.iload_n 2, 1) := by decide +kernel
theorem dX6_remove_14 : decode cX6_remove 14 = .ok (.aload_n 0, 1) := by decide +kernel
theorem dX6_remove_15 : decode cX6_remove 15 = .ok (.getfield 19, 3) := by decide +kernel
theorem dX6_remove_18 : decode cX6_remove 18 = .ok (.if_icmp .ge 32, 3) := by decide +kernel
theorem dX6_remove_21 : decode cX6_remove 21 = .ok (.iload_n 2, 1) := by decide +kernel
theorem dX6_remove_22 : decode cX6_remove 22 = .ok (.aload_n 0, 1) := by decide +kernel
theorem dX6_remove_23 : decode cX6_remove 23 = .ok (.getfield 13, 3) := by decide +kernel
theorem dX6_remove_26 : decode cX6_remove 26 = .ok (.arraylength, 1) := by decide +kernel
theorem dX6_remove_27 : decode cX6_remove 27 = .ok (.if_icmp .ge 23, 3) := by decide +kernel
theorem dX6_remove_30 : decode cX6_remove 30 = .ok (.aload_n 0, 1) := by decide +kernel
theorem dX6_remove_31 : decode cX6_remove 31 = .ok (.getfield 13, 3) := by decide +kernel
theorem dX6_remove_34 : decode cX6_remove 34 = .ok (.iload_n 2, 1) := by decide +kernel
theorem dX6_remove_35 : decode cX6_remove 35 = .ok (.iconst 1, 1) := by decide +kernel
theorem dX6_remove_36 : decode cX6_remove 36 = .ok (.isub, 1) := by decide +kernel
theorem dX6_remove_37 : decode cX6_remove 37 = .ok (.aload_n 0, 1) := by decide +kernel
theorem dX6_remove_38 : decode cX6_remove 38 = .ok (.getfield 13, 3) := by decide +kernel
theorem dX6_remove_41 : decode cX6_remove 41 = .ok (.iload_n 2, 1) := by decide +kernel
theorem dX6_remove_42 : decode cX6_remove 42 = .ok (.iaload, 1) := by decide +kernel
theorem dX6_remove_43 : decode cX6_remove 43 = .ok (.iastore, 1) := by decide +kernel
theorem dX6_remove_44 : decode cX6_remove 44 = .ok (.iinc 2 1, 3) := by decide +kernel
theorem dX6_remove_47 : decode cX6_remove 47 = .ok (.goto (-34), 3) := by decide +kernel
theorem dX6_remove_50 : decode cX6_remove 50 = .ok (.aload_n 0, 1) := by decide +kernel
theorem dX6_remove_51 : decode cX6_remove 51 = .ok (.dup, 1) := by decide +kernel
theorem dX6_remove_52 : decode cX6_remove 52 = .ok (.getfield 19, 3) := by decide +kernel
theorem dX6_remove_55 : decode cX6_remove 55 = .ok (.iconst 1, 1) := by decide +kernel
theorem dX6_remove_56 : decode cX6_remove 56 = .ok (.isub, 1) := by decide +kernel
theorem dX6_remove_57 : decode cX6_remove 57 = .ok (.putfield 19, 3) := by decide +kernel
theorem dX6_remove_60 : decode cX6_remove 60 = .ok (.return_, 1) := by decide +kernel
theorem dX6_clear_0 : decode cX6_clear 0 = .ok (.aload_n 0, 1) := by decide +kernel
theorem dX6_clear_1 : decode cX6_clear 1 = .ok (.iconst 0, 1) := by decide +kernel
theorem dX6_clear_2 : decode cX6_clear 2 = .ok (.putfield 19, 3) := by decide +kernel
theorem dX6_clear_5 : decode cX6_clear 5 = .ok (.return_, 1) := by decide +kernel
theorem dX6_copyFrom_0 : decode cX6_copyFrom 0 = .ok (.iconst 0, 1) := by decide +kernel
theorem dX6_copyFrom_1 : decode cX6_copyFrom 1 = .ok (.aload_n 1, 1) := by decide +kernel
theorem dX6_copyFrom_2 : decode cX6_copyFrom 2 = .ok (.getfield 19, 3) := by decide +kernel
theorem dX6_copyFrom_5 : decode cX6_copyFrom 5 = .ok (.aload_n 1, 1) := by decide +kernel
theorem dX6_copyFrom_6 : decode cX6_copyFrom 6 = .ok (.getfield 13, 3) := by decide +kernel
theorem dX6_copyFrom_9 : decode cX6_copyFrom 9 = .ok (.arraylength, 1) := by decide +kernel
theorem dX6_copyFrom_10 : decode cX6_copyFrom 10 = .ok (.aload_n 0, 1) := by decide +kernel
theorem dX6_copyFrom_11 : decode cX6_copyFrom 11 = .ok (.getfield 13, 3) := by decide +kernel
theorem dX6_copyFrom_14 : decode cX6_copyFrom 14 = .ok (.arraylength, 1) := by decide +kernel
theorem dX6_copyFrom_15 : decode cX6_copyFrom 15 = .ok (.invokestatic 27, 3) := by decide +kernel
theorem dX6_copyFrom_18 : decode cX6_copyFrom 18 = .ok (.invokestatic 27, 3) := by decide +kernel
theorem dX6_copyFrom_21 : decode cX6_copyFrom 21 = .ok (.invokestatic 7, 3) := by decide +kernel
theorem dX6_copyFrom_24 : decode cX6_copyFrom 24 = .ok (.istore_n 2, 1) := by decide +kernel
theorem dX6_copyFrom_25 : decode cX6_copyFrom 25 = .ok (.aload_n 1, 1) := by decide +kernel
theorem dX6_copyFrom_26 : decode cX6_copyFrom 26 = .ok (.getfield 13, 3) := by decide +kernel
theorem dX6_copyFrom_29 : decode cX6_copyFrom 29 = .ok (.iconst 0, 1) := by decide +kernel
theorem dX6_copyFrom_30 : decode cX6_copyFrom 30 = .ok (.aload_n 0, 1) := by decide +kernel
theorem dX6_copyFrom_31 : decode cX6_copyFrom 31 = .ok (.getfield 13, 3) := by decide +kernel
theorem dX6_copyFrom_34 : decode cX6_copyFrom 34 = .ok (.iconst 0, 1) := by decide +kernel
theorem dX6_copyFrom_35 : decode cX6_copyFrom 35 = .ok (.iload_n 2, 1) := by decide +kernel
theorem dX6_copyFrom_36 : decode cX6_copyFrom 36 = .ok (.invokestatic 30, 3) := by decide +kernel
theorem dX6_copyFrom_39 : decode cX6_copyFrom 39 = .ok (.aload_n 0, 1) := by decide +kernel
theorem dX6_copyFrom_40 : decode cX6_copyFrom 40 = .ok (.iload_n 2, 1) := by decide +kernel
theorem dX6_copyFrom_41 : decode cX6_copyFrom 41 = .ok (.putfield 19, 3) := by decide +kernel
theorem dX6_copyFrom_44 : decode cX6_copyFrom 44 = .ok (.return_, 1) := by decide +kernel
theorem dX6_toArray_0 : decode cX6_toArray 0 = .ok (.aload_n 0, 1) := by decide +kernel
theorem dX6_toArray_1 : decode cX6_toArray 1 = .ok (.getfield 13, 3) := by decide +kernel
theorem dX6_toArray_4 : decode cX6_toArray 4 = .ok (.iconst 0, 1) := by decide +kernel
theorem dX6_toArray_5 : decode cX6_toArray 5 = .ok (.aload_n 0, 1) := by decide +kernel
theorem dX6_toArray_6 : decode cX6_toArray 6 = .ok (.getfield 19, 3) := by decide +kernel
theorem dX6_toArray_9 : decode cX6_toArray 9 = .ok (.aload_n 0, 1) := by decide +kernel
theorem dX6_toArray_10 : decode cX6_toArray 10 = .ok (.getfield 13, 3) := by decide +kernel
theorem dX6_toArray_13 : decode cX6_toArray 13 = .ok (.arraylength, 1) := by decide +kernel
theorem dX6_toArray_14 : decode cX6_toArray 14 = .ok (.invokestatic 27, 3) := by decide +kernel
theorem dX6_toArray_17 : decode cX6_toArray 17 = .ok (.invokestatic 7, 3) := by decide +kernel
theorem dX6_toArray_20 : decode cX6_toArray 20 = .ok (.invokestatic 36, 3) := by decide +kernel
theorem dX6_toArray_23 : decode cX6_toArray 23 = .ok (.areturn, 1) := by decide +kernel
theorem dX7_init_0 : decode cX7_init 0 = .ok (.aload_n 0, 1) := by decide +kernel
theorem dX7_init_1 : decode cX7_init 1 = .ok (.invokespecial 3, 3) := by decide +kernel
theorem dX7_init_4 : decode cX7_init 4 = .ok (.aload_n 0, 1) := by decide +kernel
theorem dX7_init_5 : decode cX7_init 5 = .ok (.aload_n 1, 1) := by decide +kernel
theorem dX7_init_6 : decode cX7_init 6 = .ok (.putfield 9, 3) := by decide +kernel
theorem dX7_init_9 : decode cX7_init 9 = .ok (.aload_n 0, 1) := by decide +kernel
theorem dX7_init_10 : decode cX7_init 10 = .ok (.sipush 700, 3) := by decide +kernel
theorem dX7_init_13 : decode cX7_init 13 = .ok (.newarray .int, 2) := by decide +kernel
theorem dX7_init_15 : decode cX7_init 15 = .ok (.putfield 15, 3) := by decide +kernel
theorem dX7_init_18 : decode cX7_init 18 = .ok (.aload_n 0, 1) := by decide +kernel
theorem dX7_init_19 : decode cX7_init 19 = .ok (.new 19, 3) := by decide +kernel
theorem dX7_init_22 : decode cX7_init 22 = .ok (.dup, 1) := by decide +kernel
theorem dX7_init_23 : decode cX7_init 23 = .ok (.sipush 700, 3) := by decide +kernel
theorem dX7_init_26 : decode cX7_init 26 = .ok (.invokespecial 21, 3) := by decide +kernel
theorem dX7_init_29 : decode cX7_init 29 = .ok (.putfield 24, 3) := by decide +kernel
theorem dX7_init_32 : decode cX7_init 32 = .ok (.aload_n 0, 1) := by decide +kernel
theorem dX7_init_33 : decode cX7_init 33 = .ok (.new 28, 3) := by decide +kernel
theorem dX7_init_36 : decode cX7_init 36 = .ok (.dup, 1) := by decide +kernel
theorem dX7_init_37 : decode cX7_init 37 = .ok (.aload_n 1, 1) := by decide +kernel
theorem dX7_init_38 : decode cX7_init 38 = .ok (.invokespecial 30, 3) := by decide +kernel
theorem dX7_init_41 : decode cX7_init 41 = .ok (.putfield 33, 3) := by decide +kernel
theorem dX7_init_44 : decode cX7_init 44 = .ok (.return_, 1) := by decide +kernel
theorem dX7_textLength_0 : decode cX7_textLength 0 = .ok (.aload_n 0, 1) := by decide +kernel
theorem dX7_textLength_1 : decode cX7_textLength 1 = .ok (.getfield 37, 3) := by decide +kernel
theorem dX7_textLength_4 : decode cX7_textLength 4 = .ok (.ireturn, 1) := by decide +kernel
theorem dX7_hasRoomForFiveWords_0 : decode cX7_hasRoomForFiveWords 0 = .ok (.aload_n 0, 1) := by decide +kernel
theorem dX7_hasRoomForFiveWords_1 : decode cX7_hasRoomForFiveWords 1 = .ok (.getfield 37, 3) := by decide +kernel
theorem dX7_hasRoomForFiveWords_4 : decode cX7_hasRoomForFiveWords 4 = .ok (.bipush 20, 2) := by decide +kernel
theorem dX7_hasRoomForFiveWords_6 : decode cX7_hasRoomForFiveWords 6 = .ok (.iadd, 1) := by decide +kernel
theorem dX7_hasRoomForFiveWords_7 : decode cX7_hasRoomForFiveWords 7 = .ok (.sipush 700, 3) := by decide +kernel
theorem dX7_hasRoomForFiveWords_10 : decode cX7_hasRoomForFiveWords 10 = .ok (.if_icmp .gt 7, 3) := by decide +kernel
theorem dX7_hasRoomForFiveWords_13 : decode cX7_hasRoomForFiveWords 13 = .ok (.iconst 1, 1) := by decide +kernel
theorem dX7_hasRoomForFiveWords_14 : decode cX7_hasRoomForFiveWords 14 = .ok (.goto 4, 3) := by decide +kernel
theorem dX7_hasRoomForFiveWords_17 : decode cX7_hasRoomForFiveWords 17 = .ok (.iconst 0, 1) := by decide +kernel
theorem dX7_hasRoomForFiveWords_18 : decode cX7_hasRoomForFiveWords 18 = .ok (.ireturn, 1) := by decide +kernel
theorem dX7_addWord_0 : decode cX7_addWord 0 = .ok (.iconst 3, 1) := by decide +kernel
theorem dX7_addWord_1 : decode cX7_addWord 1 = .ok (.istore_n 2, 1) := by decide +kernel
theorem dX7_addWord_2 : decode cX7_addWord 2 = .ok (.iload_n 2, 1) := by decide +kernel
theorem dX7_addWord_3 : decode cX7_addWord 3 = .ok (.ifCond .lt 55, 3) := by decide +kernel
theorem dX7_addWord_6 : decode cX7_addWord 6 = .ok (.aload_n 0, 1) := by decide +kernel
theorem dX7_addWord_7 : decode cX7_addWord 7 = .ok (.getfield 37, 3) := by decide +kernel
theorem dX7_addWord_10 : decode cX7_addWord 10 = .ok (.ifCond .lt 42, 3) := by decide +kernel
theorem dX7_addWord_13 : decode cX7_addWord 13 = .ok (.aload_n 0, 1) := by decide +kernel
theorem dX7_addWord_14 : decode cX7_addWord 14 = .ok (.getfield 37, 3) := by decide +kernel
theorem dX7_addWord_17 : decode cX7_addWord 17 = .ok (.sipush 700, 3) := by decide +kernel
theorem dX7_addWord_20 : decode cX7_addWord 20 = .ok (.if_icmp .ge 32, 3) := by decide +kernel
theorem dX7_addWord_23 : decode cX7_addWord 23 = .ok (.aload_n 0, 1) := by decide +kernel
theorem dX7_addWord_24 : decode cX7_addWord 24 = .ok (.getfield 15, 3) := by decide +kernel
theorem dX7_addWord_27 : decode cX7_addWord 27 = .ok (.aload_n 0, 1) := by decide +kernel
theorem dX7_addWord_28 : decode cX7_addWord 28 = .ok (.getfield 37, 3) := by decide +kernel
theorem dX7_addWord_31 : decode cX7_addWord 31 = .ok (.iload_n 1, 1) := by decide +kernel
theorem dX7_addWord_32 : decode cX7_addWord 32 = .ok (.bipush 8, 2) := by decide +kernel
theorem dX7_addWord_34 : decode cX7_addWord 34 = .ok (.iload_n 2, 1) := by decide +kernel
theorem dX7_addWord_35 : decode cX7_addWord 35 = .ok (.imul, 1) := by decide +kernel
theorem dX7_addWord_36 : decode cX7_addWord 36 = .ok (.iushr, 1) := by decide +kernel
theorem dX7_addWord_37 : decode cX7_addWord 37 = .ok (.sipush 255, 3) := by decide +kernel
theorem dX7_addWord_40 : decode cX7_addWord 40 = .ok (.iand, 1) := by decide +kernel
theorem dX7_addWord_41 : decode cX7_addWord 41 = .ok (.iastore, 1) := by decide +kernel
theorem dX7_addWord_42 : decode cX7_addWord 42 = .ok (.aload_n 0, 1) := by decide +kernel
theorem dX7_addWord_43 : decode cX7_addWord 43 = .ok (.dup, 1) := by decide +kernel
theorem dX7_addWord_44 : decode cX7_addWord 44 = .ok (.getfield 37, 3) := by decide +kernel
theorem dX7_addWord_47 : decode cX7_addWord 47 = .ok (.iconst 1, 1) := by decide +kernel
theorem dX7_addWord_48 : decode cX7_addWord 48 = .ok (.iadd, 1) := by decide +kernel
theorem dX7_addWord_49 : decode cX7_addWord 49 = .ok (.putfield 37, 3) := by decide +kernel
theorem dX7_addWord_52 : decode cX7_addWord 52 = .ok (.iinc 2 (-1), 3) := by decide +kernel
theorem dX7_addWord_55 : decode cX7_addWord 55 = .ok (.goto (-53), 3) := by decide +kernel
theorem dX7_addWord_58 : decode cX7_addWord 58 = .ok (.return_, 1) := by decide +kernel
theorem dX7_errorPlace_0 : decode cX7_errorPlace 0 = .ok (.aload_n 0, 1) := by decide +kernel
theorem dX7_errorPlace_1 : decode cX7_errorPlace 1 = .ok (.getfield 41, 3) := by decide +kernel
theorem dX7_errorPlace_4 : decode cX7_errorPlace 4 = .ok (.ireturn, 1) := by decide +kernel
theorem dX7_result_0 : decode cX7_result 0 = .ok (.aload_n 0, 1) := by decide +kernel
theorem dX7_result_1 : decode cX7_result 1 = .ok (.getfield 33, 3) := by decide +kernel
theorem dX7_result_4 : decode cX7_result 4 = .ok (.areturn, 1) := by decide +kernel
theorem dX7_read_0 : decode cX7_read 0 = .ok (.aload_n 0, 1) := by decide +kernel
theorem dX7_read_1 : decode cX7_read 1 = .ok (.getfield 33, 3) := by decide +kernel
theorem dX7_read_4 : decode cX7_read 4 = .ok (.invokevirtual 44, 3) := by decide +kernel
theorem dX7_read_7 : decode cX7_read 7 = .ok (.aload_n 0, 1) := by decide +kernel
theorem dX7_read_8 : decode cX7_read 8 = .ok (.iconst 0, 1) := by decide +kernel
theorem dX7_read_9 : decode cX7_read 9 = .ok (.iload_n 1, 1) := by decide +kernel
theorem dX7_read_10 : decode cX7_read 10 = .ok (.aload_n 0, 1) := by decide +kernel
theorem dX7_read_11 : decode cX7_read 11 = .ok (.getfield 37, 3) := by decide +kernel
theorem dX7_read_14 : decode cX7_read 14 = .ok (.invokestatic 47, 3) := by decide +kernel
theorem dX7_read_17 : decode cX7_read 17 = .ok (.invokestatic 53, 3) := by decide +kernel
theorem dX7_read_20 : decode cX7_read 20 = .ok (.putfield 56, 3) := by decide +kernel
theorem dX7_read_23 : decode cX7_read 23 = .ok (.aload_n 0, 1) := by decide +kernel
theorem dX7_read_24 : decode cX7_read 24 = .ok (.iconst 0, 1) := by decide +kernel
theorem dX7_read_25 : decode cX7_read 25 = .ok (.putfield 37, 3) := by decide +kernel
theorem dX7_read_28 : decode cX7_read 28 = .ok (.aload_n 0, 1) := by decide +kernel
theorem dX7_read_29 : decode cX7_read 29 = .ok (.iconst 0, 1) := by decide +kernel
theorem dX7_read_30 : decode cX7_read 30 = .ok (.putfield 59, 3) := by decide +kernel
theorem dX7_read_33 : decode cX7_read 33 = .ok (.aload_n 0, 1) := by decide +kernel
theorem dX7_read_34 : decode cX7_read 34 = .ok (.getfield 24, 3) := by decide +kernel
theorem dX7_read_37 : decode cX7_read 37 = .ok (.invokevirtual 62, 3) := by decide +kernel
theorem dX7_read_40 : decode cX7_read 40 = .ok (.aload_n 0, 1) := by decide +kernel
theorem dX7_read_41 : decode cX7_read 41 = .ok (.iconst 0, 1) := by decide +kernel
theorem dX7_read_42 : decode cX7_read 42 = .ok (.putfield 65, 3) := by decide +kernel
theorem dX7_read_45 : decode cX7_read 45 = .ok (.aload_n 0, 1) := by decide +kernel
theorem dX7_read_46 : decode cX7_read 46 = .ok (.iconst 0, 1) := by decide +kernel
theorem dX7_read_47 : decode cX7_read 47 = .ok (.putfield 69, 3) := by decide +kernel
theorem dX7_read_50 : decode cX7_read 50 = .ok (.aload_n 0, 1) := by decide +kernel
theorem dX7_read_51 : decode cX7_read 51 = .ok (.iconst (-1), 1) := by decide +kernel
theorem dX7_read_52 : decode cX7_read 52 = .ok (.putfield 41, 3) := by decide +kernel
theorem dX7_read_55 : decode cX7_read 55 = .ok (.aload_n 0, 1) := by decide +kernel
theorem dX7_read_56 : decode cX7_read 56 = .ok (.invokevirtual 72, 3) := by decide +kernel
theorem dX7_read_59 : decode cX7_read 59 = .ok (.aload_n 0, 1) := by decide +kernel
theorem dX7_read_60 : decode cX7_read 60 = .ok (.invokevirtual 75, 3) := by decide +kernel
theorem dX7_read_63 : decode cX7_read 63 = .ok (.ifCond .eq 37, 3) := by decide +kernel
theorem dX7_read_66 : decode cX7_read 66 = .ok (.iconst 0, 1) := by decide +kernel
theorem dX7_read_67 : decode cX7_read 67 = .ok (.istore_n 2, 1) := by decide +kernel
theorem dX7_read_68 : decode cX7_read 68 = .ok (.iload_n 2, 1) := by decide +kernel
theorem dX7_read_69 : decode cX7_read 69 = .ok (.sipush 700, 3) := by decide +kernel
theorem dX7_read_72 : decode cX7_read 72 = .ok (.if_icmp .ge 28, 3) := by decide +kernel
theorem dX7_read_75 : decode cX7_read 75 = .ok (.aload_n 0, 1) := by decide +kernel
theorem dX7_read_76 : decode cX7_read 76 = .ok (.getfield 69, 3) := by decide +kernel
theorem dX7_read_79 : decode cX7_read 79 = .ok (.ifCond .ne 21, 3) := by decide +kernel
theorem dX7_read_82 : decode cX7_read 82 = .ok (.aload_n 0, 1) := by decide +kernel
theorem dX7_read_83 : decode cX7_read 83 = .ok (.getfield 79, 3) := by decide +kernel
theorem dX7_read_86 : decode cX7_read 86 = .ok (.ifCond .eq 14, 3) := by decide +kernel
theorem dX7_read_89 : decode cX7_read 89 = .ok (.aload_n 0, 1) := by decide +kernel
theorem dX7_read_90 : decode cX7_read 90 = .ok (.invokevirtual 82, 3) := by decide +kernel
theorem dX7_read_93 : decode cX7_read 93 = .ok (.pop, 1) := by decide +kernel
theorem dX7_read_94 : decode cX7_read 94 = .ok (.iinc 2 1, 3) := by decide +kernel
theorem dX7_read_97 : decode cX7_read 97 = .ok (.goto (-29), 3) := by decide +kernel
theorem dX7_read_100 : decode cX7_read 100 = .ok (.aload_n 0, 1) := by decide +kernel
theorem dX7_read_101 : decode cX7_read 101 = .ok (.getfield 69, 3) := by decide +kernel
theorem dX7_read_104 : decode cX7_read 104 = .ok (.ireturn, 1) := by decide +kernel
theorem dX7_fail_0 : decode cX7_fail 0 = .ok (.aload_n 0, 1) := by decide +kernel
theorem dX7_fail_1 : decode cX7_fail 1 = .ok (.iload_n 1, 1) := by decide +kernel
theorem dX7_fail_2 : decode cX7_fail 2 = .ok (.putfield 69, 3) := by decide +kernel
theorem dX7_fail_5 : decode cX7_fail 5 = .ok (.aload_n 0, 1) := by decide +kernel
theorem dX7_fail_6 : decode cX7_fail 6 = .ok (.iload_n 2, 1) := by decide +kernel
theorem dX7_fail_7 : decode cX7_fail 7 = .ok (.putfield 41, 3) := by decide +kernel
theorem dX7_fail_10 : decode cX7_fail 10 = .ok (.iconst 0, 1) := by decide +kernel
theorem dX7_fail_11 : decode cX7_fail 11 = .ok (.ireturn, 1) := by decide +kernel
theorem dX7_advance_0 : decode cX7_advance 0 = .ok (.aload_n 0, 1) := by decide +kernel
theorem dX7_advance_1 : decode cX7_advance 1 = .ok (.getfield 59, 3) := by decide +kernel
theorem dX7_advance_4 : decode cX7_advance 4 = .ok (.istore_n 1, 1) := by decide +kernel
theorem dX7_advance_5 : decode cX7_advance 5 = .ok (.iload_n 1, 1) := by decide +kernel
theorem dX7_advance_6 : decode cX7_advance 6 = .ok (.aload_n 0, 1) := by decide +kernel
theorem dX7_advance_7 : decode cX7_advance 7 = .ok (.getfield 56, 3) := by decide +kernel
theorem dX7_advance_10 : decode cX7_advance 10 = .ok (.if_icmp .ge 27, 3) := by decide +kernel
theorem dX7_advance_13 : decode cX7_advance 13 = .ok (.iload_n 1, 1) := by decide +kernel
theorem dX7_advance_14 : decode cX7_advance 14 = .ok (.sipush 700, 3) := by decide +kernel
theorem dX7_advance_17 : decode cX7_advance 17 = .ok (.if_icmp .ge 20, 3) := by decide +kernel
theorem dX7_advance_20 : decode cX7_advance 20 = .ok (.aload_n 0, 1) := by decide +kernel
theorem dX7_advance_21 : decode cX7_advance 21 = .ok (.getfield 15, 3) := by decide +kernel
theorem dX7_advance_24 : decode cX7_advance 24 = .ok (.iload_n 1, 1) := by decide +kernel
theorem dX7_advance_25 : decode cX7_advance 25 = .ok (.iaload, 1) := by decide +kernel
theorem dX7_advance_26 : decode cX7_advance 26 = .ok (.bipush 32, 2) := by decide +kernel
theorem dX7_advance_28 : decode cX7_advance 28 = .ok (.if_icmp .ne 9, 3) := by decide +kernel
theorem dX7_advance_31 : decode cX7_advance 31 = .ok (.iinc 1 1, 3) := by decide +kernel
theorem dX7_advance_34 : decode cX7_advance 34 = .ok (.goto (-29), 3) := by decide +kernel
theorem dX7_advance_37 : decode cX7_advance 37 = .ok (.aload_n 0, 1) := by decide +kernel
theorem dX7_advance_38 : decode cX7_advance 38 = .ok (.iload_n 1, 1) := by decide +kernel
theorem dX7_advance_39 : decode cX7_advance 39 = .ok (.putfield 85, 3) := by decide +kernel
theorem dX7_advance_42 : decode cX7_advance 42 = .ok (.aload_n 0, 1) := by decide +kernel
theorem dX7_advance_43 : decode cX7_advance 43 = .ok (.iconst 0, 1) := by decide +kernel
theorem dX7_advance_44 : decode cX7_advance 44 = .ok (.putfield 88, 3) := by decide +kernel
theorem dX7_advance_47 : decode cX7_advance 47 = .ok (.aload_n 0, 1) := by decide +kernel
theorem dX7_advance_48 : decode cX7_advance 48 = .ok (.iconst 0, 1) := by decide +kernel
theorem dX7_advance_49 : decode cX7_advance 49 = .ok (.putfield 79, 3) := by decide +kernel
theorem dX7_advance_52 : decode cX7_advance 52 = .ok (.iload_n 1, 1) := by decide +kernel
theorem dX7_advance_53 : decode cX7_advance 53 = .ok (.aload_n 0, 1) := by decide +kernel
theorem dX7_advance_54 : decode cX7_advance 54 = .ok (.getfield 56, 3) := by decide +kernel
theorem dX7_advance_57 : decode cX7_advance 57 = .ok (.if_icmp .ge 10, 3) := by decide +kernel
theorem dX7_advance_60 : decode cX7_advance 60 = .ok (.iload_n 1, 1) := by decide +kernel
theorem dX7_advance_61 : decode cX7_advance 61 = .ok (.sipush 700, 3) := by decide +kernel
theorem dX7_advance_64 : decode cX7_advance 64 = .ok (.if_icmp .lt 9, 3) := by decide +kernel
theorem dX7_advance_67 : decode cX7_advance 67 = .ok (.aload_n 0, 1) := by decide +kernel
theorem dX7_advance_68 : decode cX7_advance 68 = .ok (.iload_n 1, 1) := by decide +kernel
theorem dX7_advance_69 : decode cX7_advance 69 = .ok (.putfield 59, 3) := by decide +kernel
theorem dX7_advance_72 : decode cX7_advance 72 = .ok (.return_, 1) := by decide +kernel
theorem dX7_advance_73 : decode cX7_advance 73 = .ok (.aload_n 0, 1) := by decide +kernel
theorem dX7_advance_74 : decode cX7_advance 74 = .ok (.aload_n 0, 1) := by decide +kernel
theorem dX7_advance_75 : decode cX7_advance 75 = .ok (.getfield 15, 3) := by decide +kernel
theorem dX7_advance_78 : decode cX7_advance 78 = .ok (.iload_n 1, 1) := by decide +kernel
theorem dX7_advance_79 : decode cX7_advance 79 = .ok (.iaload, 1) := by decide +kernel
theorem dX7_advance_80 : decode cX7_advance 80 = .ok (.invokestatic 91, 3) := by decide +kernel
theorem dX7_advance_83 : decode cX7_advance 83 = .ok (.ifCond .eq 7, 3) := by decide +kernel
theorem dX7_advance_86 : decode cX7_advance 86 = .ok (.iconst 1, 1) := by decide +kernel
theorem dX7_advance_87 : decode cX7_advance 87 = .ok (.goto 20, 3) := by decide +kernel
theorem dX7_advance_90 : decode cX7_advance 90 = .ok (.aload_n 0, 1) := by decide +kernel
theorem dX7_advance_91 : decode cX7_advance 91 = .ok (.getfield 15, 3) := by decide +kernel
theorem dX7_advance_94 : decode cX7_advance 94 = .ok (.iload_n 1, 1) := by decide +kernel
theorem dX7_advance_95 : decode cX7_advance 95 = .ok (.iaload, 1) := by decide +kernel
theorem dX7_advance_96 : decode cX7_advance 96 = .ok (.invokestatic 95, 3) := by decide +kernel
theorem dX7_advance_99 : decode cX7_advance 99 = .ok (.ifCond .eq 7, 3) := by decide +kernel
theorem dX7_advance_102 : decode cX7_advance 102 = .ok (.iconst 2, 1) := by decide +kernel
theorem dX7_advance_103 : decode cX7_advance 103 = .ok (.goto 4, 3) := by decide +kernel
theorem dX7_advance_106 : decode cX7_advance 106 = .ok (.iconst 3, 1) := by decide +kernel
theorem dX7_advance_107 : decode cX7_advance 107 = .ok (.putfield 79, 3) := by decide +kernel
theorem dX7_advance_110 : decode cX7_advance 110 = .ok (.aload_n 0, 1) := by decide +kernel
theorem dX7_advance_111 : decode cX7_advance 111 = .ok (.getfield 79, 3) := by decide +kernel
theorem dX7_advance_114 : decode cX7_advance 114 = .ok (.iconst 3, 1) := by decide +kernel
theorem dX7_advance_115 : decode cX7_advance 115 = .ok (.if_icmp .ne 11, 3) := by decide +kernel
theorem dX7_advance_118 : decode cX7_advance 118 = .ok (.aload_n 0, 1) := by decide +kernel
theorem dX7_advance_119 : decode cX7_advance 119 = .ok (.iload_n 1, 1) := by decide +kernel
theorem dX7_advance_120 : decode cX7_advance 120 = .ok (.iconst 1, 1) := by decide +kernel
theorem dX7_advance_121 : decode cX7_advance 121 = .ok (.iadd, 1) := by decide +kernel
theorem dX7_advance_122 : decode cX7_advance 122 = .ok (.putfield 59, 3) := by decide +kernel
theorem dX7_advance_125 : decode cX7_advance 125 = .ok (.return_, 1) := by decide +kernel
theorem dX7_advance_126 : decode cX7_advance 126 = .ok (.aload_n 0, 1) := by decide +kernel
theorem dX7_advance_127 : decode cX7_advance 127 = .ok (.getfield 79, 3) := by decide +kernel
theorem dX7_advance_130 : decode cX7_advance 130 = .ok (.iconst 1, 1) := by decide +kernel
theorem dX7_advance_131 : decode cX7_advance 131 = .ok (.if_icmp .ne 7, 3) := by decide +kernel
theorem dX7_advance_134 : decode cX7_advance 134 = .ok (.iconst 1, 1) := by decide +kernel
theorem dX7_advance_135 : decode cX7_advance 135 = .ok (.goto 4, 3) := by decide +kernel
theorem dX7_advance_138 : decode cX7_advance 138 = .ok (.iconst 0, 1) := by decide +kernel
theorem dX7_advance_139 : decode cX7_advance 139 = .ok (.istore_n 2, 1) := by decide +kernel
theorem dX7_advance_140 : decode cX7_advance 140 = .ok (.iload_n 1, 1) := by decide +kernel
theorem dX7_advance_141 : decode cX7_advance 141 = .ok (.aload_n 0, 1) := by decide +kernel
theorem dX7_advance_142 : decode cX7_advance 142 = .ok (.getfield 56, 3) := by decide +kernel
theorem dX7_advance_145 : decode cX7_advance 145 = .ok (.if_icmp .ge 81, 3) := by decide +kernel
theorem dX7_advance_148 : decode cX7_advance 148 = .ok (.iload_n 1, 1) := by decide +kernel
theorem dX7_advance_149 : decode cX7_advance 149 = .ok (.sipush 700, 3) := by decide +kernel
theorem dX7_advance_152 : decode cX7_advance 152 = .ok (.if_icmp .ge 74, 3) := by decide +kernel
theorem dX7_advance_155 : decode cX7_advance 155 = .ok (.iload_n 2, 1) := by decide +kernel
theorem dX7_advance_156 : decode cX7_advance 156 = .ok (.ifCond .eq 18, 3) := by decide +kernel
theorem dX7_advance_159 : decode cX7_advance 159 = .ok (.aload_n 0, 1) := by decide +kernel
theorem dX7_advance_160 : decode cX7_advance 160 = .ok (.getfield 15, 3) := by decide +kernel
theorem dX7_advance_163 : decode cX7_advance 163 = .ok (.iload_n 1, 1) := by decide +kernel
theorem dX7_advance_164 : decode cX7_advance 164 = .ok (.iaload, 1) := by decide +kernel
theorem dX7_advance_165 : decode cX7_advance 165 = .ok (.invokestatic 91, 3) := by decide +kernel
theorem dX7_advance_168 : decode cX7_advance 168 = .ok (.ifCond .eq 58, 3) := by decide +kernel
theorem dX7_advance_171 : decode cX7_advance 171 = .ok (.goto 15, 3) := by decide +kernel
theorem dX7_advance_174 : decode cX7_advance 174 = .ok (.aload_n 0, 1) := by decide +kernel
theorem dX7_advance_175 : decode cX7_advance 175 = .ok (.getfield 15, 3) := by decide +kernel
theorem dX7_advance_178 : decode cX7_advance 178 = .ok (.iload_n 1, 1) := by decide +kernel
theorem dX7_advance_179 : decode cX7_advance 179 = .ok (.iaload, 1) := by decide +kernel
theorem dX7_advance_180 : decode cX7_advance 180 = .ok (.invokestatic 95, 3) := by decide +kernel
theorem dX7_advance_183 : decode cX7_advance 183 = .ok (.ifCond .eq 43, 3) := by decide +kernel
theorem dX7_advance_186 : decode cX7_advance 186 = .ok (.aload_n 0, 1) := by decide +kernel
theorem dX7_advance_187 : decode cX7_advance 187 = .ok (.iload_n 2, 1) := by decide +kernel
theorem dX7_advance_188 : decode cX7_advance 188 = .ok (.ifCond .eq 28, 3) := by decide +kernel
theorem dX7_advance_191 : decode cX7_advance 191 = .ok (.ldc 98, 2) := by decide +kernel
theorem dX7_advance_193 : decode cX7_advance 193 = .ok (.aload_n 0, 1) := by decide +kernel
theorem dX7_advance_194 : decode cX7_advance 194 = .ok (.getfield 88, 3) := by decide +kernel
theorem dX7_advance_197 : decode cX7_advance 197 = .ok (.bipush 10, 2) := by decide +kernel
theorem dX7_advance_199 : decode cX7_advance 199 = .ok (.imul, 1) := by decide +kernel
theorem dX7_advance_200 : decode cX7_advance 200 = .ok (.aload_n 0, 1) := by decide +kernel
theorem dX7_advance_201 : decode cX7_advance 201 = .ok (.getfield 15, 3) := by decide +kernel
theorem dX7_advance_204 : decode cX7_advance 204 = .ok (.iload_n 1, 1) := by decide +kernel
theorem dX7_advance_205 : decode cX7_advance 205 = .ok (.iaload, 1) := by decide +kernel
theorem dX7_advance_206 : decode cX7_advance 206 = .ok (.iadd, 1) := by decide +kernel
theorem dX7_advance_207 : decode cX7_advance 207 = .ok (.bipush 48, 2) := by decide +kernel
theorem dX7_advance_209 : decode cX7_advance 209 = .ok (.isub, 1) := by decide +kernel
theorem dX7_advance_210 : decode cX7_advance 210 = .ok (.invokestatic 47, 3) := by decide +kernel
theorem dX7_advance_213 : decode cX7_advance 213 = .ok (.goto 4, 3) := by decide +kernel
theorem dX7_advance_216 : decode cX7_advance 216 = .ok (.iconst 0, 1) := by decide +kernel
theorem dX7_advance_217 : decode cX7_advance 217 = .ok (.putfield 88, 3) := by decide +kernel
theorem dX7_advance_220 : decode cX7_advance 220 = .ok (.iinc 1 1, 3) := by decide +kernel
theorem dX7_advance_223 : decode cX7_advance 223 = .ok (.goto (-83), 3) := by decide +kernel
theorem dX7_advance_226 : decode cX7_advance 226 = .ok (.aload_n 0, 1) := by decide +kernel
theorem dX7_advance_227 : decode cX7_advance 227 = .ok (.iload_n 1, 1) := by decide +kernel
theorem dX7_advance_228 : decode cX7_advance 228 = .ok (.putfield 59, 3) := by decide +kernel
theorem dX7_advance_231 : decode cX7_advance 231 = .ok (.return_, 1) := by decide +kernel
theorem dX7_isDigit_0 : decode cX7_isDigit 0 = .ok (.iload_n 0, 1) := by decide +kernel
theorem dX7_isDigit_1 : decode cX7_isDigit 1 = .ok (.bipush 48, 2) := by decide +kernel
theorem dX7_isDigit_3 : decode cX7_isDigit 3 = .ok (.if_icmp .lt 13, 3) := by decide +kernel
theorem dX7_isDigit_6 : decode cX7_isDigit 6 = .ok (.iload_n 0, 1) := by decide +kernel
theorem dX7_isDigit_7 : decode cX7_isDigit 7 = .ok (.bipush 57, 2) := by decide +kernel
theorem dX7_isDigit_9 : decode cX7_isDigit 9 = .ok (.if_icmp .gt 7, 3) := by decide +kernel
theorem dX7_isDigit_12 : decode cX7_isDigit 12 = .ok (.iconst 1, 1) := by decide +kernel
theorem dX7_isDigit_13 : decode cX7_isDigit 13 = .ok (.goto 4, 3) := by decide +kernel
theorem dX7_isDigit_16 : decode cX7_isDigit 16 = .ok (.iconst 0, 1) := by decide +kernel
theorem dX7_isDigit_17 : decode cX7_isDigit 17 = .ok (.ireturn, 1) := by decide +kernel
theorem dX7_isLetter_0 : decode cX7_isLetter 0 = .ok (.iload_n 0, 1) := by decide +kernel
theorem dX7_isLetter_1 : decode cX7_isLetter 1 = .ok (.bipush 97, 2) := by decide +kernel
theorem dX7_isLetter_3 : decode cX7_isLetter 3 = .ok (.if_icmp .lt 13, 3) := by decide +kernel
theorem dX7_isLetter_6 : decode cX7_isLetter 6 = .ok (.iload_n 0, 1) := by decide +kernel
theorem dX7_isLetter_7 : decode cX7_isLetter 7 = .ok (.bipush 122, 2) := by decide +kernel
theorem dX7_isLetter_9 : decode cX7_isLetter 9 = .ok (.if_icmp .gt 7, 3) := by decide +kernel
theorem dX7_isLetter_12 : decode cX7_isLetter 12 = .ok (.iconst 1, 1) := by decide +kernel
theorem dX7_isLetter_13 : decode cX7_isLetter 13 = .ok (.goto 4, 3) := by decide +kernel
theorem dX7_isLetter_16 : decode cX7_isLetter 16 = .ok (.iconst 0, 1) := by decide +kernel
theorem dX7_isLetter_17 : decode cX7_isLetter 17 = .ok (.ireturn, 1) := by decide +kernel
theorem dX7_isWord_0 : decode cX7_isWord 0 = .ok (.aload_n 0, 1) := by decide +kernel
theorem dX7_isWord_1 : decode cX7_isWord 1 = .ok (.getfield 79, 3) := by decide +kernel
theorem dX7_isWord_4 : decode cX7_isWord 4 = .ok (.iconst 2, 1) := by decide +kernel
theorem dX7_isWord_5 : decode cX7_isWord 5 = .ok (.if_icmp .ne 19, 3) := by decide +kernel
theorem dX7_isWord_8 : decode cX7_isWord 8 = .ok (.aload_n 0, 1) := by decide +kernel
theorem dX7_isWord_9 : decode cX7_isWord 9 = .ok (.getfield 59, 3) := by decide +kernel
theorem dX7_isWord_12 : decode cX7_isWord 12 = .ok (.aload_n 0, 1) := by decide +kernel
theorem dX7_isWord_13 : decode cX7_isWord 13 = .ok (.getfield 85, 3) := by decide +kernel
theorem dX7_isWord_16 : decode cX7_isWord 16 = .ok (.isub, 1) := by decide +kernel
theorem dX7_isWord_17 : decode cX7_isWord 17 = .ok (.aload_n 1, 1) := by decide +kernel
theorem dX7_isWord_18 : decode cX7_isWord 18 = .ok (.invokevirtual 99, 3) := by decide +kernel
theorem dX7_isWord_21 : decode cX7_isWord 21 = .ok (.if_icmp .eq 5, 3) := by decide +kernel
theorem dX7_isWord_24 : decode cX7_isWord 24 = .ok (.iconst 0, 1) := by decide +kernel
theorem dX7_isWord_25 : decode cX7_isWord 25 = .ok (.ireturn, 1) := by decide +kernel
theorem dX7_isWord_26 : decode cX7_isWord 26 = .ok (.iconst 0, 1) := by decide +kernel
theorem dX7_isWord_27 : decode cX7_isWord 27 = .ok (.istore_n 2, 1) := by decide +kernel
theorem dX7_isWord_28 : decode cX7_isWord 28 = .ok (.iload_n 2, 1) := by decide +kernel
theorem dX7_isWord_29 : decode cX7_isWord 29 = .ok (.aload_n 1, 1) := by decide +kernel
theorem dX7_isWord_30 : decode cX7_isWord 30 = .ok (.invokevirtual 99, 3) := by decide +kernel
theorem dX7_isWord_33 : decode cX7_isWord 33 = .ok (.if_icmp .ge 43, 3) := by decide +kernel
theorem dX7_isWord_36 : decode cX7_isWord 36 = .ok (.aload_n 0, 1) := by decide +kernel
theorem dX7_isWord_37 : decode cX7_isWord 37 = .ok (.getfield 85, 3) := by decide +kernel
theorem dX7_isWord_40 : decode cX7_isWord 40 = .ok (.iload_n 2, 1) := by decide +kernel
theorem dX7_isWord_41 : decode cX7_isWord 41 = .ok (.iadd, 1) := by decide +kernel
theorem dX7_isWord_42 : decode cX7_isWord 42 = .ok (.istore_n 3, 1) := by decide +kernel
theorem dX7_isWord_43 : decode cX7_isWord 43 = .ok (.iload_n 3, 1) := by decide +kernel
theorem dX7_isWord_44 : decode cX7_isWord 44 = .ok (.ifCond .lt 24, 3) := by decide +kernel
theorem dX7_isWord_47 : decode cX7_isWord 47 = .ok (.iload_n 3, 1) := by decide +kernel
theorem dX7_isWord_48 : decode cX7_isWord 48 = .ok (.sipush 700, 3) := by decide +kernel
theorem dX7_isWord_51 : decode cX7_isWord 51 = .ok (.if_icmp .ge 17, 3) := by decide +kernel
theorem dX7_isWord_54 : decode cX7_isWord 54 = .ok (.aload_n 0, 1) := by decide +kernel
theorem dX7_isWord_55 : decode cX7_isWord 55 = .ok (.getfield 15, 3) := by decide +kernel
theorem dX7_isWord_58 : decode cX7_isWord 58 = .ok (.iload_n 3, 1) := by decide +kernel
theorem dX7_isWord_59 : decode cX7_isWord 59 = .ok (.iaload, 1) := by decide +kernel
theorem dX7_isWord_60 : decode cX7_isWord 60 = .ok (.aload_n 1, 1) := by decide +kernel
theorem dX7_isWord_61 : decode cX7_isWord 61 = .ok (.iload_n 2, 1) := by decide +kernel
theorem dX7_isWord_62 : decode cX7_isWord 62 = .ok (.invokevirtual 104, 3) := by decide +kernel
theorem dX7_isWord_65 : decode cX7_isWord 65 = .ok (.if_icmp .eq 5, 3) := by decide +kernel
theorem dX7_isWord_68 : decode cX7_isWord 68 = .ok (.iconst 0, 1) := by decide +kernel
theorem dX7_isWord_69 : decode cX7_isWord 69 = .ok (.ireturn, 1) := by decide +kernel
theorem dX7_isWord_70 : decode cX7_isWord 70 = .ok (.iinc 2 1, 3) := by decide +kernel
theorem dX7_isWord_73 : decode cX7_isWord 73 = .ok (.goto (-45), 3) := by decide +kernel
theorem dX7_isWord_76 : decode cX7_isWord 76 = .ok (.iconst 1, 1) := by decide +kernel
theorem dX7_isWord_77 : decode cX7_isWord 77 = .ok (.ireturn, 1) := by decide +kernel
theorem dX7_isSign_0 : decode cX7_isSign 0 = .ok (.aload_n 0, 1) := by decide +kernel
theorem dX7_isSign_1 : decode cX7_isSign 1 = .ok (.getfield 79, 3) := by decide +kernel
theorem dX7_isSign_4 : decode cX7_isSign 4 = .ok (.iconst 3, 1) := by decide +kernel
theorem dX7_isSign_5 : decode cX7_isSign 5 = .ok (.if_icmp .ne 37, 3) := by decide +kernel
theorem dX7_isSign_8 : decode cX7_isSign 8 = .ok (.aload_n 0, 1) := by decide +kernel
theorem dX7_isSign_9 : decode cX7_isSign 9 = .ok (.getfield 85, 3) := by decide +kernel
theorem dX7_isSign_12 : decode cX7_isSign 12 = .ok (.ifCond .lt 30, 3) := by decide +kernel
theorem dX7_isSign_15 : decode cX7_isSign 15 = .ok (.aload_n 0, 1) := by decide +kernel
theorem dX7_isSign_16 : decode cX7_isSign 16 = .ok (.getfield 85, 3) := by decide +kernel
theorem dX7_isSign_19 : decode cX7_isSign 19 = .ok (.sipush 700, 3) := by decide +kernel
theorem dX7_isSign_22 : decode cX7_isSign 22 = .ok (.if_icmp .ge 20, 3) := by decide +kernel
theorem dX7_isSign_25 : decode cX7_isSign 25 = .ok (.aload_n 0, 1) := by decide +kernel
theorem dX7_isSign_26 : decode cX7_isSign 26 = .ok (.getfield 15, 3) := by decide +kernel
theorem dX7_isSign_29 : decode cX7_isSign 29 = .ok (.aload_n 0, 1) := by decide +kernel
theorem dX7_isSign_30 : decode cX7_isSign 30 = .ok (.getfield 85, 3) := by decide +kernel
theorem dX7_isSign_33 : decode cX7_isSign 33 = .ok (.iaload, 1) := by decide +kernel
theorem dX7_isSign_34 : decode cX7_isSign 34 = .ok (.iload_n 1, 1) := by decide +kernel
theorem dX7_isSign_35 : decode cX7_isSign 35 = .ok (.if_icmp .ne 7, 3) := by decide +kernel
theorem dX7_isSign_38 : decode cX7_isSign 38 = .ok (.iconst 1, 1) := by decide +kernel
theorem dX7_isSign_39 : decode cX7_isSign 39 = .ok (.goto 4, 3) := by decide +kernel
theorem dX7_isSign_42 : decode cX7_isSign 42 = .ok (.iconst 0, 1) := by decide +kernel
theorem dX7_isSign_43 : decode cX7_isSign 43 = .ok (.ireturn, 1) := by decide +kernel
theorem dX7_takeSign_0 : decode cX7_takeSign 0 = .ok (.aload_n 0, 1) := by decide +kernel
theorem dX7_takeSign_1 : decode cX7_takeSign 1 = .ok (.iload_n 1, 1) := by decide +kernel
theorem dX7_takeSign_2 : decode cX7_takeSign 2 = .ok (.invokevirtual 108, 3) := by decide +kernel
theorem dX7_takeSign_5 : decode cX7_takeSign 5 = .ok (.ifCond .ne 14, 3) := by decide +kernel
theorem dX7_takeSign_8 : decode cX7_takeSign 8 = .ok (.aload_n 0, 1) := by decide +kernel
theorem dX7_takeSign_9 : decode cX7_takeSign 9 = .ok (.bipush (-2), 2) := by decide +kernel
theorem dX7_takeSign_11 : decode cX7_takeSign 11 = .ok (.aload_n 0, 1) := by decide +kernel
theorem dX7_takeSign_12 : decode cX7_takeSign 12 = .ok (.getfield 85, 3) := by decide +kernel
theorem dX7_takeSign_15 : decode cX7_takeSign 15 = .ok (.invokevirtual 112, 3) := by decide +kernel
theorem dX7_takeSign_18 : decode cX7_takeSign 18 = .ok (.ireturn, 1) := by decide +kernel
theorem dX7_takeSign_19 : decode cX7_takeSign 19 = .ok (.aload_n 0, 1) := by decide +kernel
theorem dX7_takeSign_20 : decode cX7_takeSign 20 = .ok (.invokevirtual 72, 3) := by decide +kernel
theorem dX7_takeSign_23 : decode cX7_takeSign 23 = .ok (.iconst 1, 1) := by decide +kernel
theorem dX7_takeSign_24 : decode cX7_takeSign 24 = .ok (.ireturn, 1) := by decide +kernel
theorem dX7_takeNumber_0 : decode cX7_takeNumber 0 = .ok (.aload_n 0, 1) := by decide +kernel
theorem dX7_takeNumber_1 : decode cX7_takeNumber 1 = .ok (.getfield 79, 3) := by decide +kernel
theorem dX7_takeNumber_4 : decode cX7_takeNumber 4 = .ok (.iconst 1, 1) := by decide +kernel
theorem dX7_takeNumber_5 : decode cX7_takeNumber 5 = .ok (.if_icmp .eq 14, 3) := by decide +kernel
theorem dX7_takeNumber_8 : decode cX7_takeNumber 8 = .ok (.aload_n 0, 1) := by decide +kernel
theorem dX7_takeNumber_9 : decode cX7_takeNumber 9 = .ok (.bipush (-2), 2) := by decide +kernel
theorem dX7_takeNumber_11 : decode cX7_takeNumber 11 = .ok (.aload_n 0, 1) := by decide +kernel
theorem dX7_takeNumber_12 : decode cX7_takeNumber 12 = .ok (.getfield 85, 3) := by decide +kernel
theorem dX7_takeNumber_15 : decode cX7_takeNumber 15 = .ok (.invokevirtual 112, 3) := by decide +kernel
theorem dX7_takeNumber_18 : decode cX7_takeNumber 18 = .ok (.ireturn, 1) := by decide +kernel
theorem dX7_takeNumber_19 : decode cX7_takeNumber 19 = .ok (.aload_n 0, 1) := by decide +kernel
theorem dX7_takeNumber_20 : decode cX7_takeNumber 20 = .ok (.getfield 88, 3) := by decide +kernel
theorem dX7_takeNumber_23 : decode cX7_takeNumber 23 = .ok (.iload_n 1, 1) := by decide +kernel
theorem dX7_takeNumber_24 : decode cX7_takeNumber 24 = .ok (.if_icmp .lt 11, 3) := by decide +kernel
theorem dX7_takeNumber_27 : decode cX7_takeNumber 27 = .ok (.aload_n 0, 1) := by decide +kernel
theorem dX7_takeNumber_28 : decode cX7_takeNumber 28 = .ok (.getfield 88, 3) := by decide +kernel
theorem dX7_takeNumber_31 : decode cX7_takeNumber 31 = .ok (.iload_n 2, 1) := by decide +kernel
theorem dX7_takeNumber_32 : decode cX7_takeNumber 32 = .ok (.if_icmp .le 14, 3) := by decide +kernel
theorem dX7_takeNumber_35 : decode cX7_takeNumber 35 = .ok (.aload_n 0, 1) := by decide +kernel
theorem dX7_takeNumber_36 : decode cX7_takeNumber 36 = .ok (.bipush (-3), 2) := by decide +kernel
theorem dX7_takeNumber_38 : decode cX7_takeNumber 38 = .ok (.aload_n 0, 1) := by decide +kernel
theorem dX7_takeNumber_39 : decode cX7_takeNumber 39 = .ok (.getfield 85, 3) := by decide +kernel
theorem dX7_takeNumber_42 : decode cX7_takeNumber 42 = .ok (.invokevirtual 112, 3) := by decide +kernel
theorem dX7_takeNumber_45 : decode cX7_takeNumber 45 = .ok (.ireturn, 1) := by decide +kernel
theorem dX7_takeNumber_46 : decode cX7_takeNumber 46 = .ok (.aload_n 0, 1) := by decide +kernel
theorem dX7_takeNumber_47 : decode cX7_takeNumber 47 = .ok (.aload_n 0, 1) := by decide +kernel
theorem dX7_takeNumber_48 : decode cX7_takeNumber 48 = .ok (.getfield 88, 3) := by decide +kernel
theorem dX7_takeNumber_51 : decode cX7_takeNumber 51 = .ok (.putfield 116, 3) := by decide +kernel
theorem dX7_takeNumber_54 : decode cX7_takeNumber 54 = .ok (.aload_n 0, 1) := by decide +kernel
theorem dX7_takeNumber_55 : decode cX7_takeNumber 55 = .ok (.invokevirtual 72, 3) := by decide +kernel
theorem dX7_takeNumber_58 : decode cX7_takeNumber 58 = .ok (.iconst 1, 1) := by decide +kernel
theorem dX7_takeNumber_59 : decode cX7_takeNumber 59 = .ok (.ireturn, 1) := by decide +kernel
theorem dX7_takeElement_0 : decode cX7_takeElement 0 = .ok (.aload_n 0, 1) := by decide +kernel
theorem dX7_takeElement_1 : decode cX7_takeElement 1 = .ok (.getfield 79, 3) := by decide +kernel
theorem dX7_takeElement_4 : decode cX7_takeElement 4 = .ok (.iconst 1, 1) := by decide +kernel
theorem dX7_takeElement_5 : decode cX7_takeElement 5 = .ok (.if_icmp .eq 14, 3) := by decide +kernel
theorem dX7_takeElement_8 : decode cX7_takeElement 8 = .ok (.aload_n 0, 1) := by decide +kernel
theorem dX7_takeElement_9 : decode cX7_takeElement 9 = .ok (.bipush (-2), 2) := by decide +kernel
theorem dX7_takeElement_11 : decode cX7_takeElement 11 = .ok (.aload_n 0, 1) := by decide +kernel
theorem dX7_takeElement_12 : decode cX7_takeElement 12 = .ok (.getfield 85, 3) := by decide +kernel
theorem dX7_takeElement_15 : decode cX7_takeElement 15 = .ok (.invokevirtual 112, 3) := by decide +kernel
theorem dX7_takeElement_18 : decode cX7_takeElement 18 = .ok (.ireturn, 1) := by decide +kernel
theorem dX7_takeElement_19 : decode cX7_takeElement 19 = .ok (.aload_n 0, 1) := by decide +kernel
theorem dX7_takeElement_20 : decode cX7_takeElement 20 = .ok (.aload_n 0, 1) := by decide +kernel
theorem dX7_takeElement_21 : decode cX7_takeElement 21 = .ok (.getfield 9, 3) := by decide +kernel
theorem dX7_takeElement_24 : decode cX7_takeElement 24 = .ok (.aload_n 0, 1) := by decide +kernel
theorem dX7_takeElement_25 : decode cX7_takeElement 25 = .ok (.getfield 88, 3) := by decide +kernel
theorem dX7_takeElement_28 : decode cX7_takeElement 28 = .ok (.aload_n 0, 1) := by decide +kernel
theorem dX7_takeElement_29 : decode cX7_takeElement 29 = .ok (.getfield 33, 3) := by decide +kernel
theorem dX7_takeElement_32 : decode cX7_takeElement 32 = .ok (.getfield 119, 3) := by decide +kernel
theorem dX7_takeElement_35 : decode cX7_takeElement 35 = .ok (.invokevirtual 122, 3) := by decide +kernel
theorem dX7_takeElement_38 : decode cX7_takeElement 38 = .ok (.putfield 116, 3) := by decide +kernel
theorem dX7_takeElement_41 : decode cX7_takeElement 41 = .ok (.aload_n 0, 1) := by decide +kernel
theorem dX7_takeElement_42 : decode cX7_takeElement 42 = .ok (.getfield 116, 3) := by decide +kernel
theorem dX7_takeElement_45 : decode cX7_takeElement 45 = .ok (.iconst (-1), 1) := by decide +kernel
theorem dX7_takeElement_46 : decode cX7_takeElement 46 = .ok (.if_icmp .ne 14, 3) := by decide +kernel
theorem dX7_takeElement_49 : decode cX7_takeElement 49 = .ok (.aload_n 0, 1) := by decide +kernel
theorem dX7_takeElement_50 : decode cX7_takeElement 50 = .ok (.bipush (-3), 2) := by decide +kernel
theorem dX7_takeElement_52 : decode cX7_takeElement 52 = .ok (.aload_n 0, 1) := by decide +kernel
theorem dX7_takeElement_53 : decode cX7_takeElement 53 = .ok (.getfield 85, 3) := by decide +kernel
theorem dX7_takeElement_56 : decode cX7_takeElement 56 = .ok (.invokevirtual 112, 3) := by decide +kernel
theorem dX7_takeElement_59 : decode cX7_takeElement 59 = .ok (.ireturn, 1) := by decide +kernel
theorem dX7_takeElement_60 : decode cX7_takeElement 60 = .ok (.aload_n 0, 1) := by decide +kernel
theorem dX7_takeElement_61 : decode cX7_takeElement 61 = .ok (.invokevirtual 72, 3) := by decide +kernel
theorem dX7_takeElement_64 : decode cX7_takeElement 64 = .ok (.iconst 1, 1) := by decide +kernel
theorem dX7_takeElement_65 : decode cX7_takeElement 65 = .ok (.ireturn, 1) := by decide +kernel
theorem dX7_takeGroup_0 : decode cX7_takeGroup 0 = .ok (.aload_n 0, 1) := by decide +kernel
theorem dX7_takeGroup_1 : decode cX7_takeGroup 1 = .ok (.ldc 127, 2) := by decide +kernel
theorem dX7_takeGroup_3 : decode cX7_takeGroup 3 = .ok (.invokevirtual 128, 3) := by decide +kernel
theorem dX7_takeGroup_6 : decode cX7_takeGroup 6 = .ok (.ifCond .ne 14, 3) := by decide +kernel
theorem dX7_takeGroup_9 : decode cX7_takeGroup 9 = .ok (.aload_n 0, 1) := by decide +kernel
theorem dX7_takeGroup_10 : decode cX7_takeGroup 10 = .ok (.bipush (-2), 2) := by decide +kernel
theorem dX7_takeGroup_12 : decode cX7_takeGroup 12 = .ok (.aload_n 0, 1) := by decide +kernel
theorem dX7_takeGroup_13 : decode cX7_takeGroup 13 = .ok (.getfield 85, 3) := by decide +kernel
theorem dX7_takeGroup_16 : decode cX7_takeGroup 16 = .ok (.invokevirtual 112, 3) := by decide +kernel
theorem dX7_takeGroup_19 : decode cX7_takeGroup 19 = .ok (.ireturn, 1) := by decide +kernel
theorem dX7_takeGroup_20 : decode cX7_takeGroup 20 = .ok (.aload_n 0, 1) := by decide +kernel
theorem dX7_takeGroup_21 : decode cX7_takeGroup 21 = .ok (.invokevirtual 72, 3) := by decide +kernel
theorem dX7_takeGroup_24 : decode cX7_takeGroup 24 = .ok (.aload_n 0, 1) := by decide +kernel
theorem dX7_takeGroup_25 : decode cX7_takeGroup 25 = .ok (.iconst 2, 1) := by decide +kernel
theorem dX7_takeGroup_26 : decode cX7_takeGroup 26 = .ok (.iconst 5, 1) := by decide +kernel
theorem dX7_takeGroup_27 : decode cX7_takeGroup 27 = .ok (.invokevirtual 132, 3) := by decide +kernel
theorem dX7_takeGroup_30 : decode cX7_takeGroup 30 = .ok (.ifCond .ne 5, 3) := by decide +kernel
theorem dX7_takeGroup_33 : decode cX7_takeGroup 33 = .ok (.iconst 0, 1) := by decide +kernel
theorem dX7_takeGroup_34 : decode cX7_takeGroup 34 = .ok (.ireturn, 1) := by decide +kernel
theorem dX7_takeGroup_35 : decode cX7_takeGroup 35 = .ok (.aload_n 0, 1) := by decide +kernel
theorem dX7_takeGroup_36 : decode cX7_takeGroup 36 = .ok (.getfield 33, 3) := by decide +kernel
theorem dX7_takeGroup_39 : decode cX7_takeGroup 39 = .ok (.aload_n 0, 1) := by decide +kernel
theorem dX7_takeGroup_40 : decode cX7_takeGroup 40 = .ok (.getfield 116, 3) := by decide +kernel
theorem dX7_takeGroup_43 : decode cX7_takeGroup 43 = .ok (.putfield 119, 3) := by decide +kernel
theorem dX7_takeGroup_46 : decode cX7_takeGroup 46 = .ok (.aload_n 0, 1) := by decide +kernel
theorem dX7_takeGroup_47 : decode cX7_takeGroup 47 = .ok (.bipush 59, 2) := by decide +kernel
theorem dX7_takeGroup_49 : decode cX7_takeGroup 49 = .ok (.invokevirtual 135, 3) := by decide +kernel
theorem dX7_takeGroup_52 : decode cX7_takeGroup 52 = .ok (.ireturn, 1) := by decide +kernel
theorem dX7_takeStatement_0 : decode cX7_takeStatement 0 = .ok (.aload_n 0, 1) := by decide +kernel
theorem dX7_takeStatement_1 : decode cX7_takeStatement 1 = .ok (.ldc 138, 2) := by decide +kernel
theorem dX7_takeStatement_3 : decode cX7_takeStatement 3 = .ok (.invokevirtual 128, 3) := by decide +kernel
theorem dX7_takeStatement_6 : decode cX7_takeStatement 6 = .ok (.ifCond .eq 25, 3) := by decide +kernel
theorem dX7_takeStatement_9 : decode cX7_takeStatement 9 = .ok (.aload_n 0, 1) := by decide +kernel
theorem dX7_takeStatement_10 : decode cX7_takeStatement 10 = .ok (.invokevirtual 140, 3) := by decide +kernel
theorem dX7_takeStatement_13 : decode cX7_takeStatement 13 = .ok (.ifCond .eq 16, 3) := by decide +kernel
theorem dX7_takeStatement_16 : decode cX7_takeStatement 16 = .ok (.aload_n 0, 1) := by decide +kernel
theorem dX7_takeStatement_17 : decode cX7_takeStatement 17 = .ok (.bipush 59, 2) := by decide +kernel
theorem dX7_takeStatement_19 : decode cX7_takeStatement 19 = .ok (.invokevirtual 135, 3) := by decide +kernel
theorem dX7_takeStatement_22 : decode cX7_takeStatement 22 = .ok (.ifCond .eq 7, 3) := by decide +kernel
theorem dX7_takeStatement_25 : decode cX7_takeStatement 25 = .ok (.iconst 1, 1) := by decide +kernel
theorem dX7_takeStatement_26 : decode cX7_takeStatement 26 = .ok (.goto 4, 3) := by decide +kernel
theorem dX7_takeStatement_29 : decode cX7_takeStatement 29 = .ok (.iconst 0, 1) := by decide +kernel
theorem dX7_takeStatement_30 : decode cX7_takeStatement 30 = .ok (.ireturn, 1) := by decide +kernel
theorem dX7_takeStatement_31 : decode cX7_takeStatement 31 = .ok (.aload_n 0, 1) := by decide +kernel
theorem dX7_takeStatement_32 : decode cX7_takeStatement 32 = .ok (.ldc 143, 2) := by decide +kernel
theorem dX7_takeStatement_34 : decode cX7_takeStatement 34 = .ok (.invokevirtual 128, 3) := by decide +kernel
theorem dX7_takeStatement_37 : decode cX7_takeStatement 37 = .ok (.ifCond .eq 25, 3) := by decide +kernel
theorem dX7_takeStatement_40 : decode cX7_takeStatement 40 = .ok (.aload_n 0, 1) := by decide +kernel
theorem dX7_takeStatement_41 : decode cX7_takeStatement 41 = .ok (.invokevirtual 145, 3) := by decide +kernel
theorem dX7_takeStatement_44 : decode cX7_takeStatement 44 = .ok (.ifCond .eq 16, 3) := by decide +kernel
theorem dX7_takeStatement_47 : decode cX7_takeStatement 47 = .ok (.aload_n 0, 1) := by decide +kernel
theorem dX7_takeStatement_48 : decode cX7_takeStatement 48 = .ok (.bipush 59, 2) := by decide +kernel
theorem dX7_takeStatement_50 : decode cX7_takeStatement 50 = .ok (.invokevirtual 135, 3) := by decide +kernel
theorem dX7_takeStatement_53 : decode cX7_takeStatement 53 = .ok (.ifCond .eq 7, 3) := by decide +kernel
theorem dX7_takeStatement_56 : decode cX7_takeStatement 56 = .ok (.iconst 1, 1) := by decide +kernel
theorem dX7_takeStatement_57 : decode cX7_takeStatement 57 = .ok (.goto 4, 3) := by decide +kernel
theorem dX7_takeStatement_60 : decode cX7_takeStatement 60 = .ok (.iconst 0, 1) := by decide +kernel
theorem dX7_takeStatement_61 : decode cX7_takeStatement 61 = .ok (.ireturn, 1) := by decide +kernel
theorem dX7_takeStatement_62 : decode cX7_takeStatement 62 = .ok (.aload_n 0, 1) := by decide +kernel
theorem dX7_takeStatement_63 : decode cX7_takeStatement 63 = .ok (.ldc 148, 2) := by decide +kernel
theorem dX7_takeStatement_65 : decode cX7_takeStatement 65 = .ok (.invokevirtual 128, 3) := by decide +kernel
theorem dX7_takeStatement_68 : decode cX7_takeStatement 68 = .ok (.ifCond .eq 25, 3) := by decide +kernel
theorem dX7_takeStatement_71 : decode cX7_takeStatement 71 = .ok (.aload_n 0, 1) := by decide +kernel
theorem dX7_takeStatement_72 : decode cX7_takeStatement 72 = .ok (.invokevirtual 150, 3) := by decide +kernel
theorem dX7_takeStatement_75 : decode cX7_takeStatement 75 = .ok (.ifCond .eq 16, 3) := by decide +kernel
theorem dX7_takeStatement_78 : decode cX7_takeStatement 78 = .ok (.aload_n 0, 1) := by decide +kernel
theorem dX7_takeStatement_79 : decode cX7_takeStatement 79 = .ok (.bipush 59, 2) := by decide +kernel
theorem dX7_takeStatement_81 : decode cX7_takeStatement 81 = .ok (.invokevirtual 135, 3) := by decide +kernel
theorem dX7_takeStatement_84 : decode cX7_takeStatement 84 = .ok (.ifCond .eq 7, 3) := by decide +kernel
theorem dX7_takeStatement_87 : decode cX7_takeStatement 87 = .ok (.iconst 1, 1) := by decide +kernel
theorem dX7_takeStatement_88 : decode cX7_takeStatement 88 = .ok (.goto 4, 3) := by decide +kernel
theorem dX7_takeStatement_91 : decode cX7_takeStatement 91 = .ok (.iconst 0, 1) := by decide +kernel
theorem dX7_takeStatement_92 : decode cX7_takeStatement 92 = .ok (.ireturn, 1) := by decide +kernel
theorem dX7_takeStatement_93 : decode cX7_takeStatement 93 = .ok (.aload_n 0, 1) := by decide +kernel
theorem dX7_takeStatement_94 : decode cX7_takeStatement 94 = .ok (.ldc 153, 2) := by decide +kernel
theorem dX7_takeStatement_96 : decode cX7_takeStatement 96 = .ok (.invokevirtual 128, 3) := by decide +kernel
theorem dX7_takeStatement_99 : decode cX7_takeStatement 99 = .ok (.ifCond .eq 32, 3) := by decide +kernel
theorem dX7_takeStatement_102 : decode cX7_takeStatement 102 = .ok (.aload_n 0, 1) := by decide +kernel
theorem dX7_takeStatement_103 : decode cX7_takeStatement 103 = .ok (.getfield 65, 3) := by decide +kernel
theorem dX7_takeStatement_106 : decode cX7_takeStatement 106 = .ok (.ifCond .ne 25, 3) := by decide +kernel
theorem dX7_takeStatement_109 : decode cX7_takeStatement 109 = .ok (.aload_n 0, 1) := by decide +kernel
theorem dX7_takeStatement_110 : decode cX7_takeStatement 110 = .ok (.invokevirtual 155, 3) := by decide +kernel
theorem dX7_takeStatement_113 : decode cX7_takeStatement 113 = .ok (.ifCond .eq 16, 3) := by decide +kernel
theorem dX7_takeStatement_116 : decode cX7_takeStatement 116 = .ok (.aload_n 0, 1) := by decide +kernel
theorem dX7_takeStatement_117 : decode cX7_takeStatement 117 = .ok (.bipush 59, 2) := by decide +kernel
theorem dX7_takeStatement_119 : decode cX7_takeStatement 119 = .ok (.invokevirtual 135, 3) := by decide +kernel
theorem dX7_takeStatement_122 : decode cX7_takeStatement 122 = .ok (.ifCond .eq 7, 3) := by decide +kernel
theorem dX7_takeStatement_125 : decode cX7_takeStatement 125 = .ok (.iconst 1, 1) := by decide +kernel
theorem dX7_takeStatement_126 : decode cX7_takeStatement 126 = .ok (.goto 4, 3) := by decide +kernel
theorem dX7_takeStatement_129 : decode cX7_takeStatement 129 = .ok (.iconst 0, 1) := by decide +kernel
theorem dX7_takeStatement_130 : decode cX7_takeStatement 130 = .ok (.ireturn, 1) := by decide +kernel
theorem dX7_takeStatement_131 : decode cX7_takeStatement 131 = .ok (.aload_n 0, 1) := by decide +kernel
theorem dX7_takeStatement_132 : decode cX7_takeStatement 132 = .ok (.bipush (-2), 2) := by decide +kernel
theorem dX7_takeStatement_134 : decode cX7_takeStatement 134 = .ok (.aload_n 0, 1) := by decide +kernel
theorem dX7_takeStatement_135 : decode cX7_takeStatement 135 = .ok (.getfield 85, 3) := by decide +kernel
theorem dX7_takeStatement_138 : decode cX7_takeStatement 138 = .ok (.invokevirtual 112, 3) := by decide +kernel
theorem dX7_takeStatement_141 : decode cX7_takeStatement 141 = .ok (.ireturn, 1) := by decide +kernel
theorem dX7_takePlayer_0 : decode cX7_takePlayer 0 = .ok (.aload_n 0, 1) := by decide +kernel
theorem dX7_takePlayer_1 : decode cX7_takePlayer 1 = .ok (.getfield 33, 3) := by decide +kernel
theorem dX7_takePlayer_4 : decode cX7_takePlayer 4 = .ok (.getfield 158, 3) := by decide +kernel
theorem dX7_takePlayer_7 : decode cX7_takePlayer 7 = .ok (.iconst 5, 1) := by decide +kernel
theorem dX7_takePlayer_8 : decode cX7_takePlayer 8 = .ok (.if_icmp .lt 14, 3) := by decide +kernel
theorem dX7_takePlayer_11 : decode cX7_takePlayer 11 = .ok (.aload_n 0, 1) := by decide +kernel
theorem dX7_takePlayer_12 : decode cX7_takePlayer 12 = .ok (.bipush (-4), 2) := by decide +kernel
theorem dX7_takePlayer_14 : decode cX7_takePlayer 14 = .ok (.aload_n 0, 1) := by decide +kernel
theorem dX7_takePlayer_15 : decode cX7_takePlayer 15 = .ok (.getfield 85, 3) := by decide +kernel
theorem dX7_takePlayer_18 : decode cX7_takePlayer 18 = .ok (.invokevirtual 112, 3) := by decide +kernel
theorem dX7_takePlayer_21 : decode cX7_takePlayer 21 = .ok (.ireturn, 1) := by decide +kernel
theorem dX7_takePlayer_22 : decode cX7_takePlayer 22 = .ok (.aload_n 0, 1) := by decide +kernel
theorem dX7_takePlayer_23 : decode cX7_takePlayer 23 = .ok (.invokevirtual 72, 3) := by decide +kernel
theorem dX7_takePlayer_26 : decode cX7_takePlayer 26 = .ok (.aload_n 0, 1) := by decide +kernel
theorem dX7_takePlayer_27 : decode cX7_takePlayer 27 = .ok (.iconst 0, 1) := by decide +kernel
theorem dX7_takePlayer_28 : decode cX7_takePlayer 28 = .ok (.ldc 161, 2) := by decide +kernel
theorem dX7_takePlayer_30 : decode cX7_takePlayer 30 = .ok (.invokevirtual 132, 3) := by decide +kernel
theorem dX7_takePlayer_33 : decode cX7_takePlayer 33 = .ok (.ifCond .ne 5, 3) := by decide +kernel
theorem dX7_takePlayer_36 : decode cX7_takePlayer 36 = .ok (.iconst 0, 1) := by decide +kernel
theorem dX7_takePlayer_37 : decode cX7_takePlayer 37 = .ok (.ireturn, 1) := by decide +kernel
theorem dX7_takePlayer_38 : decode cX7_takePlayer 38 = .ok (.aload_n 0, 1) := by decide +kernel
theorem dX7_takePlayer_39 : decode cX7_takePlayer 39 = .ok (.getfield 33, 3) := by decide +kernel
theorem dX7_takePlayer_42 : decode cX7_takePlayer 42 = .ok (.aload_n 0, 1) := by decide +kernel
theorem dX7_takePlayer_43 : decode cX7_takePlayer 43 = .ok (.getfield 116, 3) := by decide +kernel
theorem dX7_takePlayer_46 : decode cX7_takePlayer 46 = .ok (.invokevirtual 162, 3) := by decide +kernel
theorem dX7_takePlayer_49 : decode cX7_takePlayer 49 = .ok (.iconst 1, 1) := by decide +kernel
theorem dX7_takePlayer_50 : decode cX7_takePlayer 50 = .ok (.ireturn, 1) := by decide +kernel
theorem dX7_takeCard_0 : decode cX7_takeCard 0 = .ok (.aload_n 0, 1) := by decide +kernel
theorem dX7_takeCard_1 : decode cX7_takeCard 1 = .ok (.invokevirtual 72, 3) := by decide +kernel
theorem dX7_takeCard_4 : decode cX7_takeCard 4 = .ok (.aload_n 0, 1) := by decide +kernel
theorem dX7_takeCard_5 : decode cX7_takeCard 5 = .ok (.getfield 85, 3) := by decide +kernel
theorem dX7_takeCard_8 : decode cX7_takeCard 8 = .ok (.istore_n 1, 1) := by decide +kernel
theorem dX7_takeCard_9 : decode cX7_takeCard 9 = .ok (.aload_n 0, 1) := by decide +kernel
theorem dX7_takeCard_10 : decode cX7_takeCard 10 = .ok (.iconst 0, 1) := by decide +kernel
theorem dX7_takeCard_11 : decode cX7_takeCard 11 = .ok (.aload_n 0, 1) := by decide +kernel
theorem dX7_takeCard_12 : decode cX7_takeCard 12 = .ok (.getfield 33, 3) := by decide +kernel
theorem dX7_takeCard_15 : decode cX7_takeCard 15 = .ok (.getfield 158, 3) := by decide +kernel
theorem dX7_takeCard_18 : decode cX7_takeCard 18 = .ok (.iconst 1, 1) := by decide +kernel
theorem dX7_takeCard_19 : decode cX7_takeCard 19 = .ok (.isub, 1) := by decide +kernel
theorem dX7_takeCard_20 : decode cX7_takeCard 20 = .ok (.invokevirtual 132, 3) := by decide +kernel
theorem dX7_takeCard_23 : decode cX7_takeCard 23 = .ok (.ifCond .ne 5, 3) := by decide +kernel
theorem dX7_takeCard_26 : decode cX7_takeCard 26 = .ok (.iconst 0, 1) := by decide +kernel
theorem dX7_takeCard_27 : decode cX7_takeCard 27 = .ok (.ireturn, 1) := by decide +kernel
theorem dX7_takeCard_28 : decode cX7_takeCard 28 = .ok (.aload_n 0, 1) := by decide +kernel
theorem dX7_takeCard_29 : decode cX7_takeCard 29 = .ok (.getfield 33, 3) := by decide +kernel
theorem dX7_takeCard_32 : decode cX7_takeCard 32 = .ok (.aload_n 0, 1) := by decide +kernel
theorem dX7_takeCard_33 : decode cX7_takeCard 33 = .ok (.getfield 116, 3) := by decide +kernel
theorem dX7_takeCard_36 : decode cX7_takeCard 36 = .ok (.invokevirtual 165, 3) := by decide +kernel
theorem dX7_takeCard_39 : decode cX7_takeCard 39 = .ok (.astore_n 2, 1) := by decide +kernel
theorem dX7_takeCard_40 : decode cX7_takeCard 40 = .ok (.aload_n 2, 1) := by decide +kernel
theorem dX7_takeCard_41 : decode cX7_takeCard 41 = .ok (.ifnonnull 11, 3) := by decide +kernel
theorem dX7_takeCard_44 : decode cX7_takeCard 44 = .ok (.aload_n 0, 1) := by decide +kernel
theorem dX7_takeCard_45 : decode cX7_takeCard 45 = .ok (.bipush (-3), 2) := by decide +kernel
theorem dX7_takeCard_47 : decode cX7_takeCard 47 = .ok (.iload_n 1, 1) := by decide +kernel
theorem dX7_takeCard_48 : decode cX7_takeCard 48 = .ok (.invokevirtual 112, 3) := by decide +kernel
theorem dX7_takeCard_51 : decode cX7_takeCard 51 = .ok (.ireturn, 1) := by decide +kernel
theorem dX7_takeCard_52 : decode cX7_takeCard 52 = .ok (.aload_n 2, 1) := by decide +kernel
theorem dX7_takeCard_53 : decode cX7_takeCard 53 = .ok (.getfield 169, 3) := by decide +kernel
theorem dX7_takeCard_56 : decode cX7_takeCard 56 = .ok (.invokevirtual 174, 3) := by decide +kernel
theorem dX7_takeCard_59 : decode cX7_takeCard 59 = .ok (.ifCond .eq 11, 3) := by decide +kernel
theorem dX7_takeCard_62 : decode cX7_takeCard 62 = .ok (.aload_n 0, 1) := by decide +kernel
theorem dX7_takeCard_63 : decode cX7_takeCard 63 = .ok (.bipush (-4), 2) := by decide +kernel
theorem dX7_takeCard_65 : decode cX7_takeCard 65 = .ok (.iload_n 1, 1) := by decide +kernel
theorem dX7_takeCard_66 : decode cX7_takeCard 66 = .ok (.invokevirtual 112, 3) := by decide +kernel
theorem dX7_takeCard_69 : decode cX7_takeCard 69 = .ok (.ireturn, 1) := by decide +kernel
theorem dX7_takeCard_70 : decode cX7_takeCard 70 = .ok (.aload_n 0, 1) := by decide +kernel
theorem dX7_takeCard_71 : decode cX7_takeCard 71 = .ok (.invokevirtual 177, 3) := by decide +kernel
theorem dX7_takeCard_74 : decode cX7_takeCard 74 = .ok (.ifCond .ne 5, 3) := by decide +kernel
theorem dX7_takeCard_77 : decode cX7_takeCard 77 = .ok (.iconst 0, 1) := by decide +kernel
theorem dX7_takeCard_78 : decode cX7_takeCard 78 = .ok (.ireturn, 1) := by decide +kernel
theorem dX7_takeCard_79 : decode cX7_takeCard 79 = .ok (.aload_n 0, 1) := by decide +kernel
theorem dX7_takeCard_80 : decode cX7_takeCard 80 = .ok (.getfield 116, 3) := by decide +kernel
theorem dX7_takeCard_83 : decode cX7_takeCard 83 = .ok (.istore_n 3, 1) := by decide +kernel
theorem dX7_takeCard_84 : decode cX7_takeCard 84 = .ok (.aload_n 0, 1) := by decide +kernel
theorem dX7_takeCard_85 : decode cX7_takeCard 85 = .ok (.iconst 1, 1) := by decide +kernel
theorem dX7_takeCard_86 : decode cX7_takeCard 86 = .ok (.sipush 999, 3) := by decide +kernel
theorem dX7_takeCard_89 : decode cX7_takeCard 89 = .ok (.invokevirtual 132, 3) := by decide +kernel
theorem dX7_takeCard_92 : decode cX7_takeCard 92 = .ok (.ifCond .ne 5, 3) := by decide +kernel
theorem dX7_takeCard_95 : decode cX7_takeCard 95 = .ok (.iconst 0, 1) := by decide +kernel
theorem dX7_takeCard_96 : decode cX7_takeCard 96 = .ok (.ireturn, 1) := by decide +kernel
theorem dX7_takeCard_97 : decode cX7_takeCard 97 = .ok (.aload_n 2, 1) := by decide +kernel
theorem dX7_takeCard_98 : decode cX7_takeCard 98 = .ok (.iload_n 3, 1) := by decide +kernel
theorem dX7_takeCard_99 : decode cX7_takeCard 99 = .ok (.aload_n 0, 1) := by decide +kernel
theorem dX7_takeCard_100 : decode cX7_takeCard 100 = .ok (.getfield 116, 3) := by decide +kernel
theorem dX7_takeCard_103 : decode cX7_takeCard 103 = .ok (.invokevirtual 180, 3) := by decide +kernel
theorem dX7_takeCard_106 : decode cX7_takeCard 106 = .ok (.iconst 1, 1) := by decide +kernel
theorem dX7_takeCard_107 : decode cX7_takeCard 107 = .ok (.ireturn, 1) := by decide +kernel
theorem dX7_takeLot_0 : decode cX7_takeLot 0 = .ok (.aload_n 0, 1) := by decide +kernel
theorem dX7_takeLot_1 : decode cX7_takeLot 1 = .ok (.getfield 33, 3) := by decide +kernel
theorem dX7_takeLot_4 : decode cX7_takeLot 4 = .ok (.getfield 183, 3) := by decide +kernel
theorem dX7_takeLot_7 : decode cX7_takeLot 7 = .ok (.invokevirtual 174, 3) := by decide +kernel
theorem dX7_takeLot_10 : decode cX7_takeLot 10 = .ok (.ifCond .eq 14, 3) := by decide +kernel
theorem dX7_takeLot_13 : decode cX7_takeLot 13 = .ok (.aload_n 0, 1) := by decide +kernel
theorem dX7_takeLot_14 : decode cX7_takeLot 14 = .ok (.bipush (-4), 2) := by decide +kernel
theorem dX7_takeLot_16 : decode cX7_takeLot 16 = .ok (.aload_n 0, 1) := by decide +kernel
theorem dX7_takeLot_17 : decode cX7_takeLot 17 = .ok (.getfield 85, 3) := by decide +kernel
theorem dX7_takeLot_20 : decode cX7_takeLot 20 = .ok (.invokevirtual 112, 3) := by decide +kernel
theorem dX7_takeLot_23 : decode cX7_takeLot 23 = .ok (.ireturn, 1) := by decide +kernel
theorem dX7_takeLot_24 : decode cX7_takeLot 24 = .ok (.aload_n 0, 1) := by decide +kernel
theorem dX7_takeLot_25 : decode cX7_takeLot 25 = .ok (.invokevirtual 72, 3) := by decide +kernel
theorem dX7_takeLot_28 : decode cX7_takeLot 28 = .ok (.aload_n 0, 1) := by decide +kernel
theorem dX7_takeLot_29 : decode cX7_takeLot 29 = .ok (.iconst 1, 1) := by decide +kernel
theorem dX7_takeLot_30 : decode cX7_takeLot 30 = .ok (.sipush 9999, 3) := by decide +kernel
theorem dX7_takeLot_33 : decode cX7_takeLot 33 = .ok (.invokevirtual 132, 3) := by decide +kernel
theorem dX7_takeLot_36 : decode cX7_takeLot 36 = .ok (.ifCond .ne 5, 3) := by decide +kernel
theorem dX7_takeLot_39 : decode cX7_takeLot 39 = .ok (.iconst 0, 1) := by decide +kernel
theorem dX7_takeLot_40 : decode cX7_takeLot 40 = .ok (.ireturn, 1) := by decide +kernel
theorem dX7_takeLot_41 : decode cX7_takeLot 41 = .ok (.aload_n 0, 1) := by decide +kernel
theorem dX7_takeLot_42 : decode cX7_takeLot 42 = .ok (.getfield 33, 3) := by decide +kernel
theorem dX7_takeLot_45 : decode cX7_takeLot 45 = .ok (.getfield 183, 3) := by decide +kernel
theorem dX7_takeLot_48 : decode cX7_takeLot 48 = .ok (.aload_n 0, 1) := by decide +kernel
theorem dX7_takeLot_49 : decode cX7_takeLot 49 = .ok (.getfield 116, 3) := by decide +kernel
theorem dX7_takeLot_52 : decode cX7_takeLot 52 = .ok (.invokevirtual 186, 3) := by decide +kernel
theorem dX7_takeLot_55 : decode cX7_takeLot 55 = .ok (.iconst 1, 1) := by decide +kernel
theorem dX7_takeLot_56 : decode cX7_takeLot 56 = .ok (.ireturn, 1) := by decide +kernel
theorem dX7_takePrice_0 : decode cX7_takePrice 0 = .ok (.aload_n 0, 1) := by decide +kernel
theorem dX7_takePrice_1 : decode cX7_takePrice 1 = .ok (.iconst 1, 1) := by decide +kernel
theorem dX7_takePrice_2 : decode cX7_takePrice 2 = .ok (.putfield 65, 3) := by decide +kernel
theorem dX7_takePrice_5 : decode cX7_takePrice 5 = .ok (.aload_n 0, 1) := by decide +kernel
theorem dX7_takePrice_6 : decode cX7_takePrice 6 = .ok (.invokevirtual 72, 3) := by decide +kernel
theorem dX7_takePrice_9 : decode cX7_takePrice 9 = .ok (.aload_n 0, 1) := by decide +kernel
theorem dX7_takePrice_10 : decode cX7_takePrice 10 = .ok (.iconst 0, 1) := by decide +kernel
theorem dX7_takePrice_11 : decode cX7_takePrice 11 = .ok (.invokevirtual 189, 3) := by decide +kernel
theorem dX7_takePrice_14 : decode cX7_takePrice 14 = .ok (.ifCond .ne 5, 3) := by decide +kernel
theorem dX7_takePrice_17 : decode cX7_takePrice 17 = .ok (.iconst 0, 1) := by decide +kernel
theorem dX7_takePrice_18 : decode cX7_takePrice 18 = .ok (.ireturn, 1) := by decide +kernel
theorem dX7_takePrice_19 : decode cX7_takePrice 19 = .ok (.aload_n 0, 1) := by decide +kernel
theorem dX7_takePrice_20 : decode cX7_takePrice 20 = .ok (.getfield 33, 3) := by decide +kernel
theorem dX7_takePrice_23 : decode cX7_takePrice 23 = .ok (.new 192, 3) := by decide +kernel
theorem dX7_takePrice_26 : decode cX7_takePrice 26 = .ok (.dup, 1) := by decide +kernel
theorem dX7_takePrice_27 : decode cX7_takePrice 27 = .ok (.aload_n 0, 1) := by decide +kernel
theorem dX7_takePrice_28 : decode cX7_takePrice 28 = .ok (.getfield 24, 3) := by decide +kernel
theorem dX7_takePrice_31 : decode cX7_takePrice 31 = .ok (.invokevirtual 194, 3) := by decide +kernel
theorem dX7_takePrice_34 : decode cX7_takePrice 34 = .ok (.invokespecial 198, 3) := by decide +kernel
theorem dX7_takePrice_37 : decode cX7_takePrice 37 = .ok (.invokevirtual 201, 3) := by decide +kernel
theorem dX7_takePrice_40 : decode cX7_takePrice 40 = .ok (.iconst 1, 1) := by decide +kernel
theorem dX7_takePrice_41 : decode cX7_takePrice 41 = .ok (.ireturn, 1) := by decide +kernel
theorem dX7_takeSum_0 : decode cX7_takeSum 0 = .ok (.aload_n 0, 1) := by decide +kernel
theorem dX7_takeSum_1 : decode cX7_takeSum 1 = .ok (.iload_n 1, 1) := by decide +kernel
theorem dX7_takeSum_2 : decode cX7_takeSum 2 = .ok (.invokevirtual 205, 3) := by decide +kernel
theorem dX7_takeSum_5 : decode cX7_takeSum 5 = .ok (.istore_n 2, 1) := by decide +kernel
theorem dX7_takeSum_6 : decode cX7_takeSum 6 = .ok (.iconst 0, 1) := by decide +kernel
theorem dX7_takeSum_7 : decode cX7_takeSum 7 = .ok (.istore_n 3, 1) := by decide +kernel
theorem dX7_takeSum_8 : decode cX7_takeSum 8 = .ok (.iload_n 3, 1) := by decide +kernel
theorem dX7_takeSum_9 : decode cX7_takeSum 9 = .ok (.sipush 700, 3) := by decide +kernel
theorem dX7_takeSum_12 : decode cX7_takeSum 12 = .ok (.if_icmp .ge 68, 3) := by decide +kernel
theorem dX7_takeSum_15 : decode cX7_takeSum 15 = .ok (.iload_n 2, 1) := by decide +kernel
theorem dX7_takeSum_16 : decode cX7_takeSum 16 = .ok (.ifCond .eq 64, 3) := by decide +kernel
theorem dX7_takeSum_19 : decode cX7_takeSum 19 = .ok (.aload_n 0, 1) := by decide +kernel
theorem dX7_takeSum_20 : decode cX7_takeSum 20 = .ok (.bipush 43, 2) := by decide +kernel
theorem dX7_takeSum_22 : decode cX7_takeSum 22 = .ok (.invokevirtual 108, 3) := by decide +kernel
theorem dX7_takeSum_25 : decode cX7_takeSum 25 = .ok (.ifCond .ne 12, 3) := by decide +kernel
theorem dX7_takeSum_28 : decode cX7_takeSum 28 = .ok (.aload_n 0, 1) := by decide +kernel
theorem dX7_takeSum_29 : decode cX7_takeSum 29 = .ok (.bipush 45, 2) := by decide +kernel
theorem dX7_takeSum_31 : decode cX7_takeSum 31 = .ok (.invokevirtual 108, 3) := by decide +kernel
theorem dX7_takeSum_34 : decode cX7_takeSum 34 = .ok (.ifCond .eq 46, 3) := by decide +kernel
theorem dX7_takeSum_37 : decode cX7_takeSum 37 = .ok (.aload_n 0, 1) := by decide +kernel
theorem dX7_takeSum_38 : decode cX7_takeSum 38 = .ok (.bipush 43, 2) := by decide +kernel
theorem dX7_takeSum_40 : decode cX7_takeSum 40 = .ok (.invokevirtual 108, 3) := by decide +kernel
theorem dX7_takeSum_43 : decode cX7_takeSum 43 = .ok (.ifCond .eq 8, 3) := by decide +kernel
theorem dX7_takeSum_46 : decode cX7_takeSum 46 = .ok (.bipush (-5), 2) := by decide +kernel
theorem dX7_takeSum_48 : decode cX7_takeSum 48 = .ok (.goto 5, 3) := by decide +kernel
theorem dX7_takeSum_51 : decode cX7_takeSum 51 = .ok (.bipush (-6), 2) := by decide +kernel
theorem dX7_takeSum_53 : decode cX7_takeSum 53 = .ok (.istore 4, 2) := by decide +kernel
theorem dX7_takeSum_55 : decode cX7_takeSum 55 = .ok (.aload_n 0, 1) := by decide +kernel
theorem dX7_takeSum_56 : decode cX7_takeSum 56 = .ok (.invokevirtual 72, 3) := by decide +kernel
theorem dX7_takeSum_59 : decode cX7_takeSum 59 = .ok (.aload_n 0, 1) := by decide +kernel
theorem dX7_takeSum_60 : decode cX7_takeSum 60 = .ok (.iload_n 1, 1) := by decide +kernel
theorem dX7_takeSum_61 : decode cX7_takeSum 61 = .ok (.invokevirtual 205, 3) := by decide +kernel
theorem dX7_takeSum_64 : decode cX7_takeSum 64 = .ok (.istore_n 2, 1) := by decide +kernel
theorem dX7_takeSum_65 : decode cX7_takeSum 65 = .ok (.aload_n 0, 1) := by decide +kernel
theorem dX7_takeSum_66 : decode cX7_takeSum 66 = .ok (.getfield 24, 3) := by decide +kernel
theorem dX7_takeSum_69 : decode cX7_takeSum 69 = .ok (.iload 4, 2) := by decide +kernel
theorem dX7_takeSum_71 : decode cX7_takeSum 71 = .ok (.invokevirtual 186, 3) := by decide +kernel
theorem dX7_takeSum_74 : decode cX7_takeSum 74 = .ok (.iinc 3 1, 3) := by decide +kernel
theorem dX7_takeSum_77 : decode cX7_takeSum 77 = .ok (.goto (-69), 3) := by decide +kernel
theorem dX7_takeSum_80 : decode cX7_takeSum 80 = .ok (.iload_n 2, 1) := by decide +kernel
theorem dX7_takeSum_81 : decode cX7_takeSum 81 = .ok (.ireturn, 1) := by decide +kernel
theorem dX7_takeTerm_0 : decode cX7_takeTerm 0 = .ok (.aload_n 0, 1) := by decide +kernel
theorem dX7_takeTerm_1 : decode cX7_takeTerm 1 = .ok (.iload_n 1, 1) := by decide +kernel
theorem dX7_takeTerm_2 : decode cX7_takeTerm 2 = .ok (.invokevirtual 208, 3) := by decide +kernel
theorem dX7_takeTerm_5 : decode cX7_takeTerm 5 = .ok (.istore_n 2, 1) := by decide +kernel
theorem dX7_takeTerm_6 : decode cX7_takeTerm 6 = .ok (.iconst 0, 1) := by decide +kernel
theorem dX7_takeTerm_7 : decode cX7_takeTerm 7 = .ok (.istore_n 3, 1) := by decide +kernel
theorem dX7_takeTerm_8 : decode cX7_takeTerm 8 = .ok (.iload_n 3, 1) := by decide +kernel
theorem dX7_takeTerm_9 : decode cX7_takeTerm 9 = .ok (.sipush 700, 3) := by decide +kernel
theorem dX7_takeTerm_12 : decode cX7_takeTerm 12 = .ok (.if_icmp .ge 68, 3) := by decide +kernel
theorem dX7_takeTerm_15 : decode cX7_takeTerm 15 = .ok (.iload_n 2, 1) := by decide +kernel
theorem dX7_takeTerm_16 : decode cX7_takeTerm 16 = .ok (.ifCond .eq 64, 3) := by decide +kernel
theorem dX7_takeTerm_19 : decode cX7_takeTerm 19 = .ok (.aload_n 0, 1) := by decide +kernel
theorem dX7_takeTerm_20 : decode cX7_takeTerm 20 = .ok (.bipush 42, 2) := by decide +kernel
theorem dX7_takeTerm_22 : decode cX7_takeTerm 22 = .ok (.invokevirtual 108, 3) := by decide +kernel
theorem dX7_takeTerm_25 : decode cX7_takeTerm 25 = .ok (.ifCond .ne 12, 3) := by decide +kernel
theorem dX7_takeTerm_28 : decode cX7_takeTerm 28 = .ok (.aload_n 0, 1) := by decide +kernel
theorem dX7_takeTerm_29 : decode cX7_takeTerm 29 = .ok (.bipush 47, 2) := by decide +kernel
theorem dX7_takeTerm_31 : decode cX7_takeTerm 31 = .ok (.invokevirtual 108, 3) := by decide +kernel
theorem dX7_takeTerm_34 : decode cX7_takeTerm 34 = .ok (.ifCond .eq 46, 3) := by decide +kernel
theorem dX7_takeTerm_37 : decode cX7_takeTerm 37 = .ok (.aload_n 0, 1) := by decide +kernel
theorem dX7_takeTerm_38 : decode cX7_takeTerm 38 = .ok (.bipush 42, 2) := by decide +kernel
theorem dX7_takeTerm_40 : decode cX7_takeTerm 40 = .ok (.invokevirtual 108, 3) := by decide +kernel
theorem dX7_takeTerm_43 : decode cX7_takeTerm 43 = .ok (.ifCond .eq 8, 3) := by decide +kernel
theorem dX7_takeTerm_46 : decode cX7_takeTerm 46 = .ok (.bipush (-7), 2) := by decide +kernel
theorem dX7_takeTerm_48 : decode cX7_takeTerm 48 = .ok (.goto 5, 3) := by decide +kernel
theorem dX7_takeTerm_51 : decode cX7_takeTerm 51 = .ok (.bipush (-8), 2) := by decide +kernel
theorem dX7_takeTerm_53 : decode cX7_takeTerm 53 = .ok (.istore 4, 2) := by decide +kernel
theorem dX7_takeTerm_55 : decode cX7_takeTerm 55 = .ok (.aload_n 0, 1) := by decide +kernel
theorem dX7_takeTerm_56 : decode cX7_takeTerm 56 = .ok (.invokevirtual 72, 3) := by decide +kernel
theorem dX7_takeTerm_59 : decode cX7_takeTerm 59 = .ok (.aload_n 0, 1) := by decide +kernel
theorem dX7_takeTerm_60 : decode cX7_takeTerm 60 = .ok (.iload_n 1, 1) := by decide +kernel
theorem dX7_takeTerm_61 : decode cX7_takeTerm 61 = .ok (.invokevirtual 208, 3) := by decide +kernel
theorem dX7_takeTerm_64 : decode cX7_takeTerm 64 = .ok (.istore_n 2, 1) := by decide +kernel
theorem dX7_takeTerm_65 : decode cX7_takeTerm 65 = .ok (.aload_n 0, 1) := by decide +kernel
theorem dX7_takeTerm_66 : decode cX7_takeTerm 66 = .ok (.getfield 24, 3) := by decide +kernel
theorem dX7_takeTerm_69 : decode cX7_takeTerm 69 = .ok (.iload 4, 2) := by decide +kernel
theorem dX7_takeTerm_71 : decode cX7_takeTerm 71 = .ok (.invokevirtual 186, 3) := by decide +kernel
theorem dX7_takeTerm_74 : decode cX7_takeTerm 74 = .ok (.iinc 3 1, 3) := by decide +kernel
theorem dX7_takeTerm_77 : decode cX7_takeTerm 77 = .ok (.goto (-69), 3) := by decide +kernel
theorem dX7_takeTerm_80 : decode cX7_takeTerm 80 = .ok (.iload_n 2, 1) := by decide +kernel
theorem dX7_takeTerm_81 : decode cX7_takeTerm 81 = .ok (.ireturn, 1) := by decide +kernel
theorem dX7_takeFactor_0 : decode cX7_takeFactor 0 = .ok (.aload_n 0, 1) := by decide +kernel
theorem dX7_takeFactor_1 : decode cX7_takeFactor 1 = .ok (.bipush 40, 2) := by decide +kernel
theorem dX7_takeFactor_3 : decode cX7_takeFactor 3 = .ok (.invokevirtual 108, 3) := by decide +kernel
theorem dX7_takeFactor_6 : decode cX7_takeFactor 6 = .ok (.ifCond .eq 48, 3) := by decide +kernel
theorem dX7_takeFactor_9 : decode cX7_takeFactor 9 = .ok (.iload_n 1, 1) := by decide +kernel
theorem dX7_takeFactor_10 : decode cX7_takeFactor 10 = .ok (.iconst 4, 1) := by decide +kernel
theorem dX7_takeFactor_11 : decode cX7_takeFactor 11 = .ok (.if_icmp .lt 14, 3) := by decide +kernel
theorem dX7_takeFactor_14 : decode cX7_takeFactor 14 = .ok (.aload_n 0, 1) := by decide +kernel
theorem dX7_takeFactor_15 : decode cX7_takeFactor 15 = .ok (.bipush (-5), 2) := by decide +kernel
theorem dX7_takeFactor_17 : decode cX7_takeFactor 17 = .ok (.aload_n 0, 1) := by decide +kernel
theorem dX7_takeFactor_18 : decode cX7_takeFactor 18 = .ok (.getfield 85, 3) := by decide +kernel
theorem dX7_takeFactor_21 : decode cX7_takeFactor 21 = .ok (.invokevirtual 112, 3) := by decide +kernel
theorem dX7_takeFactor_24 : decode cX7_takeFactor 24 = .ok (.ireturn, 1) := by decide +kernel
theorem dX7_takeFactor_25 : decode cX7_takeFactor 25 = .ok (.aload_n 0, 1) := by decide +kernel
theorem dX7_takeFactor_26 : decode cX7_takeFactor 26 = .ok (.invokevirtual 72, 3) := by decide +kernel
theorem dX7_takeFactor_29 : decode cX7_takeFactor 29 = .ok (.aload_n 0, 1) := by decide +kernel
theorem dX7_takeFactor_30 : decode cX7_takeFactor 30 = .ok (.iload_n 1, 1) := by decide +kernel
theorem dX7_takeFactor_31 : decode cX7_takeFactor 31 = .ok (.iconst 1, 1) := by decide +kernel
theorem dX7_takeFactor_32 : decode cX7_takeFactor 32 = .ok (.iadd, 1) := by decide +kernel
theorem dX7_takeFactor_33 : decode cX7_takeFactor 33 = .ok (.invokevirtual 189, 3) := by decide +kernel
theorem dX7_takeFactor_36 : decode cX7_takeFactor 36 = .ok (.ifCond .eq 16, 3) := by decide +kernel
theorem dX7_takeFactor_39 : decode cX7_takeFactor 39 = .ok (.aload_n 0, 1) := by decide +kernel
theorem dX7_takeFactor_40 : decode cX7_takeFactor 40 = .ok (.bipush 41, 2) := by decide +kernel
theorem dX7_takeFactor_42 : decode cX7_takeFactor 42 = .ok (.invokevirtual 135, 3) := by decide +kernel
theorem dX7_takeFactor_45 : decode cX7_takeFactor 45 = .ok (.ifCond .eq 7, 3) := by decide +kernel
theorem dX7_takeFactor_48 : decode cX7_takeFactor 48 = .ok (.iconst 1, 1) := by decide +kernel
theorem dX7_takeFactor_49 : decode cX7_takeFactor 49 = .ok (.goto 4, 3) := by decide +kernel
theorem dX7_takeFactor_52 : decode cX7_takeFactor 52 = .ok (.iconst 0, 1) := by decide +kernel
theorem dX7_takeFactor_53 : decode cX7_takeFactor 53 = .ok (.ireturn, 1) := by decide +kernel
theorem dX7_takeFactor_54 : decode cX7_takeFactor 54 = .ok (.aload_n 0, 1) := by decide +kernel
theorem dX7_takeFactor_55 : decode cX7_takeFactor 55 = .ok (.getfield 79, 3) := by decide +kernel
theorem dX7_takeFactor_58 : decode cX7_takeFactor 58 = .ok (.iconst 2, 1) := by decide +kernel
theorem dX7_takeFactor_59 : decode cX7_takeFactor 59 = .ok (.if_icmp .ne 8, 3) := by decide +kernel
theorem dX7_takeFactor_62 : decode cX7_takeFactor 62 = .ok (.aload_n 0, 1) := by decide +kernel
theorem dX7_takeFactor_63 : decode cX7_takeFactor 63 = .ok (.invokevirtual 211, 3) := by decide +kernel
theorem dX7_takeFactor_66 : decode cX7_takeFactor 66 = .ok (.ireturn, 1) := by decide +kernel
theorem dX7_takeFactor_67 : decode cX7_takeFactor 67 = .ok (.aload_n 0, 1) := by decide +kernel
theorem dX7_takeFactor_68 : decode cX7_takeFactor 68 = .ok (.iconst 0, 1) := by decide +kernel
theorem dX7_takeFactor_69 : decode cX7_takeFactor 69 = .ok (.sipush 9999, 3) := by decide +kernel
theorem dX7_takeFactor_72 : decode cX7_takeFactor 72 = .ok (.invokevirtual 132, 3) := by decide +kernel
theorem dX7_takeFactor_75 : decode cX7_takeFactor 75 = .ok (.ifCond .ne 5, 3) := by decide +kernel
theorem dX7_takeFactor_78 : decode cX7_takeFactor 78 = .ok (.iconst 0, 1) := by decide +kernel
theorem dX7_takeFactor_79 : decode cX7_takeFactor 79 = .ok (.ireturn, 1) := by decide +kernel
theorem dX7_takeFactor_80 : decode cX7_takeFactor 80 = .ok (.aload_n 0, 1) := by decide +kernel
theorem dX7_takeFactor_81 : decode cX7_takeFactor 81 = .ok (.getfield 24, 3) := by decide +kernel
theorem dX7_takeFactor_84 : decode cX7_takeFactor 84 = .ok (.aload_n 0, 1) := by decide +kernel
theorem dX7_takeFactor_85 : decode cX7_takeFactor 85 = .ok (.getfield 116, 3) := by decide +kernel
theorem dX7_takeFactor_88 : decode cX7_takeFactor 88 = .ok (.invokevirtual 186, 3) := by decide +kernel
theorem dX7_takeFactor_91 : decode cX7_takeFactor 91 = .ok (.iconst 1, 1) := by decide +kernel
theorem dX7_takeFactor_92 : decode cX7_takeFactor 92 = .ok (.ireturn, 1) := by decide +kernel
theorem dX7_takeVariable_0 : decode cX7_takeVariable 0 = .ok (.aload_n 0, 1) := by decide +kernel
theorem dX7_takeVariable_1 : decode cX7_takeVariable 1 = .ok (.ldc 214, 2) := by decide +kernel
theorem dX7_takeVariable_3 : decode cX7_takeVariable 3 = .ok (.invokevirtual 128, 3) := by decide +kernel
theorem dX7_takeVariable_6 : decode cX7_takeVariable 6 = .ok (.ifCond .eq 7, 3) := by decide +kernel
theorem dX7_takeVariable_9 : decode cX7_takeVariable 9 = .ok (.iconst (-1), 1) := by decide +kernel
theorem dX7_takeVariable_10 : decode cX7_takeVariable 10 = .ok (.goto 46, 3) := by decide +kernel
theorem dX7_takeVariable_13 : decode cX7_takeVariable 13 = .ok (.aload_n 0, 1) := by decide +kernel
theorem dX7_takeVariable_14 : decode cX7_takeVariable 14 = .ok (.ldc 216, 2) := by decide +kernel
theorem dX7_takeVariable_16 : decode cX7_takeVariable 16 = .ok (.invokevirtual 128, 3) := by decide +kernel
theorem dX7_takeVariable_19 : decode cX7_takeVariable 19 = .ok (.ifCond .eq 8, 3) := by decide +kernel
theorem dX7_takeVariable_22 : decode cX7_takeVariable 22 = .ok (.bipush (-2), 2) := by decide +kernel
theorem dX7_takeVariable_24 : decode cX7_takeVariable 24 = .ok (.goto 32, 3) := by decide +kernel
theorem dX7_takeVariable_27 : decode cX7_takeVariable 27 = .ok (.aload_n 0, 1) := by decide +kernel
theorem dX7_takeVariable_28 : decode cX7_takeVariable 28 = .ok (.ldc 218, 2) := by decide +kernel
theorem dX7_takeVariable_30 : decode cX7_takeVariable 30 = .ok (.invokevirtual 128, 3) := by decide +kernel
theorem dX7_takeVariable_33 : decode cX7_takeVariable 33 = .ok (.ifCond .eq 8, 3) := by decide +kernel
theorem dX7_takeVariable_36 : decode cX7_takeVariable 36 = .ok (.bipush (-3), 2) := by decide +kernel
theorem dX7_takeVariable_38 : decode cX7_takeVariable 38 = .ok (.goto 18, 3) := by decide +kernel
theorem dX7_takeVariable_41 : decode cX7_takeVariable 41 = .ok (.aload_n 0, 1) := by decide +kernel
theorem dX7_takeVariable_42 : decode cX7_takeVariable 42 = .ok (.ldc 220, 2) := by decide +kernel
theorem dX7_takeVariable_44 : decode cX7_takeVariable 44 = .ok (.invokevirtual 128, 3) := by decide +kernel
theorem dX7_takeVariable_47 : decode cX7_takeVariable 47 = .ok (.ifCond .eq 8, 3) := by decide +kernel
theorem dX7_takeVariable_50 : decode cX7_takeVariable 50 = .ok (.bipush (-4), 2) := by decide +kernel
theorem dX7_takeVariable_52 : decode cX7_takeVariable 52 = .ok (.goto 4, 3) := by decide +kernel
theorem dX7_takeVariable_55 : decode cX7_takeVariable 55 = .ok (.iconst 0, 1) := by decide +kernel
theorem dX7_takeVariable_56 : decode cX7_takeVariable 56 = .ok (.istore_n 1, 1) := by decide +kernel
theorem dX7_takeVariable_57 : decode cX7_takeVariable 57 = .ok (.iload_n 1, 1) := by decide +kernel
theorem dX7_takeVariable_58 : decode cX7_takeVariable 58 = .ok (.ifCond .ne 14, 3) := by decide +kernel
theorem dX7_takeVariable_61 : decode cX7_takeVariable 61 = .ok (.aload_n 0, 1) := by decide +kernel
theorem dX7_takeVariable_62 : decode cX7_takeVariable 62 = .ok (.bipush (-2), 2) := by decide +kernel
theorem dX7_takeVariable_64 : decode cX7_takeVariable 64 = .ok (.aload_n 0, 1) := by decide +kernel
theorem dX7_takeVariable_65 : decode cX7_takeVariable 65 = .ok (.getfield 85, 3) := by decide +kernel
theorem dX7_takeVariable_68 : decode cX7_takeVariable 68 = .ok (.invokevirtual 112, 3) := by decide +kernel
theorem dX7_takeVariable_71 : decode cX7_takeVariable 71 = .ok (.ireturn, 1) := by decide +kernel
theorem dX7_takeVariable_72 : decode cX7_takeVariable 72 = .ok (.aload_n 0, 1) := by decide +kernel
theorem dX7_takeVariable_73 : decode cX7_takeVariable 73 = .ok (.getfield 24, 3) := by decide +kernel
theorem dX7_takeVariable_76 : decode cX7_takeVariable 76 = .ok (.iload_n 1, 1) := by decide +kernel
theorem dX7_takeVariable_77 : decode cX7_takeVariable 77 = .ok (.invokevirtual 186, 3) := by decide +kernel
theorem dX7_takeVariable_80 : decode cX7_takeVariable 80 = .ok (.aload_n 0, 1) := by decide +kernel
theorem dX7_takeVariable_81 : decode cX7_takeVariable 81 = .ok (.invokevirtual 72, 3) := by decide +kernel
theorem dX7_takeVariable_84 : decode cX7_takeVariable 84 = .ok (.iconst 1, 1) := by decide +kernel
theorem dX7_takeVariable_85 : decode cX7_takeVariable 85 = .ok (.ireturn, 1) := by decide +kernel
theorem dX8_init_0 : decode cX8_init 0 = .ok (.aload_n 0, 1) := by decide +kernel
theorem dX8_init_1 : decode cX8_init 1 = .ok (.invokespecial 1, 3) := by decide +kernel
theorem dX8_init_4 : decode cX8_init 4 = .ok (.aload_n 0, 1) := by decide +kernel
theorem dX8_init_5 : decode cX8_init 5 = .ok (.new 7, 3) := by decide +kernel
theorem dX8_init_8 : decode cX8_init 8 = .ok (.dup, 1) := by decide +kernel
theorem dX8_init_9 : decode cX8_init 9 = .ok (.invokespecial 9, 3) := by decide +kernel
theorem dX8_init_12 : decode cX8_init 12 = .ok (.putfield 10, 3) := by decide +kernel
theorem dX8_init_15 : decode cX8_init 15 = .ok (.aload_n 0, 1) := by decide +kernel
theorem dX8_init_16 : decode cX8_init 16 = .ok (.new 16, 3) := by decide +kernel
theorem dX8_init_19 : decode cX8_init 19 = .ok (.dup, 1) := by decide +kernel
theorem dX8_init_20 : decode cX8_init 20 = .ok (.aload_n 0, 1) := by decide +kernel
theorem dX8_init_21 : decode cX8_init 21 = .ok (.getfield 10, 3) := by decide +kernel
theorem dX8_init_24 : decode cX8_init 24 = .ok (.invokespecial 18, 3) := by decide +kernel
theorem dX8_init_27 : decode cX8_init 27 = .ok (.putfield 21, 3) := by decide +kernel
theorem dX8_init_30 : decode cX8_init 30 = .ok (.aload_n 0, 1) := by decide +kernel
theorem dX8_init_31 : decode cX8_init 31 = .ok (.new 25, 3) := by decide +kernel
theorem dX8_init_34 : decode cX8_init 34 = .ok (.dup, 1) := by decide +kernel
theorem dX8_init_35 : decode cX8_init 35 = .ok (.aload_n 0, 1) := by decide +kernel
theorem dX8_init_36 : decode cX8_init 36 = .ok (.getfield 10, 3) := by decide +kernel
theorem dX8_init_39 : decode cX8_init 39 = .ok (.invokespecial 27, 3) := by decide +kernel
theorem dX8_init_42 : decode cX8_init 42 = .ok (.putfield 28, 3) := by decide +kernel
theorem dX8_init_45 : decode cX8_init 45 = .ok (.aload_n 0, 1) := by decide +kernel
theorem dX8_init_46 : decode cX8_init 46 = .ok (.new 32, 3) := by decide +kernel
theorem dX8_init_49 : decode cX8_init 49 = .ok (.dup, 1) := by decide +kernel
theorem dX8_init_50 : decode cX8_init 50 = .ok (.aload_n 0, 1) := by decide +kernel
theorem dX8_init_51 : decode cX8_init 51 = .ok (.getfield 10, 3) := by decide +kernel
theorem dX8_init_54 : decode cX8_init 54 = .ok (.invokespecial 34, 3) := by decide +kernel
theorem dX8_init_57 : decode cX8_init 57 = .ok (.putfield 35, 3) := by decide +kernel
theorem dX8_init_60 : decode cX8_init 60 = .ok (.aload_n 0, 1) := by decide +kernel
theorem dX8_init_61 : decode cX8_init 61 = .ok (.new 39, 3) := by decide +kernel
theorem dX8_init_64 : decode cX8_init 64 = .ok (.dup, 1) := by decide +kernel
theorem dX8_init_65 : decode cX8_init 65 = .ok (.aload_n 0, 1) := by decide +kernel
theorem dX8_init_66 : decode cX8_init 66 = .ok (.getfield 10, 3) := by decide +kernel
theorem dX8_init_69 : decode cX8_init 69 = .ok (.invokespecial 41, 3) := by decide +kernel
theorem dX8_init_72 : decode cX8_init 72 = .ok (.putfield 42, 3) := by decide +kernel
theorem dX8_init_75 : decode cX8_init 75 = .ok (.aload_n 0, 1) := by decide +kernel
theorem dX8_init_76 : decode cX8_init 76 = .ok (.iconst (-1), 1) := by decide +kernel
theorem dX8_init_77 : decode cX8_init 77 = .ok (.putfield 46, 3) := by decide +kernel
theorem dX8_init_80 : decode cX8_init 80 = .ok (.return_, 1) := by decide +kernel
theorem dX8_append_0 : decode cX8_append 0 = .ok (.aload_n 0, 1) := by decide +kernel
theorem dX8_append_1 : decode cX8_append 1 = .ok (.getfield 21, 3) := by decide +kernel
theorem dX8_append_4 : decode cX8_append 4 = .ok (.invokevirtual 50, 3) := by decide +kernel
theorem dX8_append_7 : decode cX8_append 7 = .ok (.ifCond .ne 5, 3) := by decide +kernel
theorem dX8_append_10 : decode cX8_append 10 = .ok (.iconst (-1), 1) := by decide +kernel
theorem dX8_append_11 : decode cX8_append 11 = .ok (.ireturn, 1) := by decide +kernel
theorem dX8_append_12 : decode cX8_append 12 = .ok (.aload_n 0, 1) := by decide +kernel
theorem dX8_append_13 : decode cX8_append 13 = .ok (.getfield 21, 3) := by decide +kernel
theorem dX8_append_16 : decode cX8_append 16 = .ok (.iload_n 1, 1) := by decide +kernel
theorem dX8_append_17 : decode cX8_append 17 = .ok (.invokevirtual 54, 3) := by decide +kernel
theorem dX8_append_20 : decode cX8_append 20 = .ok (.aload_n 0, 1) := by decide +kernel
theorem dX8_append_21 : decode cX8_append 21 = .ok (.getfield 21, 3) := by decide +kernel
theorem dX8_append_24 : decode cX8_append 24 = .ok (.iload_n 2, 1) := by decide +kernel
theorem dX8_append_25 : decode cX8_append 25 = .ok (.invokevirtual 54, 3) := by decide +kernel
theorem dX8_append_28 : decode cX8_append 28 = .ok (.aload_n 0, 1) := by decide +kernel
theorem dX8_append_29 : decode cX8_append 29 = .ok (.getfield 21, 3) := by decide +kernel
theorem dX8_append_32 : decode cX8_append 32 = .ok (.iload_n 3, 1) := by decide +kernel
theorem dX8_append_33 : decode cX8_append 33 = .ok (.invokevirtual 54, 3) := by decide +kernel
theorem dX8_append_36 : decode cX8_append 36 = .ok (.aload_n 0, 1) := by decide +kernel
theorem dX8_append_37 : decode cX8_append 37 = .ok (.getfield 21, 3) := by decide +kernel
theorem dX8_append_40 : decode cX8_append 40 = .ok (.iload 4, 2) := by decide +kernel
theorem dX8_append_42 : decode cX8_append 42 = .ok (.invokevirtual 54, 3) := by decide +kernel
theorem dX8_append_45 : decode cX8_append 45 = .ok (.aload_n 0, 1) := by decide +kernel
theorem dX8_append_46 : decode cX8_append 46 = .ok (.getfield 21, 3) := by decide +kernel
theorem dX8_append_49 : decode cX8_append 49 = .ok (.iload 5, 2) := by decide +kernel
theorem dX8_append_51 : decode cX8_append 51 = .ok (.invokevirtual 54, 3) := by decide +kernel
theorem dX8_append_54 : decode cX8_append 54 = .ok (.aload_n 0, 1) := by decide +kernel
theorem dX8_append_55 : decode cX8_append 55 = .ok (.getfield 21, 3) := by decide +kernel
theorem dX8_append_58 : decode cX8_append 58 = .ok (.invokevirtual 58, 3) := by decide +kernel
theorem dX8_append_61 : decode cX8_append 61 = .ok (.ireturn, 1) := by decide +kernel
theorem dX8_load_0 : decode cX8_load 0 = .ok (.iload_n 1, 1) := by decide +kernel
theorem dX8_load_1 : decode cX8_load 1 = .ok (.ifCond .lt 14, 3) := by decide +kernel
theorem dX8_load_4 : decode cX8_load 4 = .ok (.iload_n 1, 1) := by decide +kernel
theorem dX8_load_5 : decode cX8_load 5 = .ok (.aload_n 0, 1) := by decide +kernel
theorem dX8_load_6 : decode cX8_load 6 = .ok (.getfield 21, 3) := by decide +kernel
theorem dX8_load_9 : decode cX8_load 9 = .ok (.invokevirtual 58, 3) := by decide +kernel
theorem dX8_load_12 : decode cX8_load 12 = .ok (.if_icmp .le 11, 3) := by decide +kernel
theorem dX8_load_15 : decode cX8_load 15 = .ok (.new 62, 3) := by decide +kernel
theorem dX8_load_18 : decode cX8_load 18 = .ok (.dup, 1) := by decide +kernel
theorem dX8_load_19 : decode cX8_load 19 = .ok (.invokespecial 64, 3) := by decide +kernel
theorem dX8_load_22 : decode cX8_load 22 = .ok (.athrow, 1) := by decide +kernel
theorem dX8_load_23 : decode cX8_load 23 = .ok (.aload_n 0, 1) := by decide +kernel
theorem dX8_load_24 : decode cX8_load 24 = .ok (.getfield 21, 3) := by decide +kernel
theorem dX8_load_27 : decode cX8_load 27 = .ok (.iload_n 1, 1) := by decide +kernel
theorem dX8_load_28 : decode cX8_load 28 = .ok (.invokevirtual 65, 3) := by decide +kernel
theorem dX8_load_31 : decode cX8_load 31 = .ok (.istore_n 2, 1) := by decide +kernel
theorem dX8_load_32 : decode cX8_load 32 = .ok (.aload_n 0, 1) := by decide +kernel
theorem dX8_load_33 : decode cX8_load 33 = .ok (.aload_n 0, 1) := by decide +kernel
theorem dX8_load_34 : decode cX8_load 34 = .ok (.getfield 21, 3) := by decide +kernel
theorem dX8_load_37 : decode cX8_load 37 = .ok (.invokevirtual 69, 3) := by decide +kernel
theorem dX8_load_40 : decode cX8_load 40 = .ok (.putfield 46, 3) := by decide +kernel
theorem dX8_load_43 : decode cX8_load 43 = .ok (.iload_n 2, 1) := by decide +kernel
theorem dX8_load_44 : decode cX8_load 44 = .ok (.ifCond .eq 5, 3) := by decide +kernel
theorem dX8_load_47 : decode cX8_load 47 = .ok (.iload_n 2, 1) := by decide +kernel
theorem dX8_load_48 : decode cX8_load 48 = .ok (.ireturn, 1) := by decide +kernel
theorem dX8_load_49 : decode cX8_load 49 = .ok (.aload_n 0, 1) := by decide +kernel
theorem dX8_load_50 : decode cX8_load 50 = .ok (.getfield 35, 3) := by decide +kernel
theorem dX8_load_53 : decode cX8_load 53 = .ok (.aload_n 0, 1) := by decide +kernel
theorem dX8_load_54 : decode cX8_load 54 = .ok (.getfield 28, 3) := by decide +kernel
theorem dX8_load_57 : decode cX8_load 57 = .ok (.invokevirtual 72, 3) := by decide +kernel
theorem dX8_load_60 : decode cX8_load 60 = .ok (.aload_n 0, 1) := by decide +kernel
theorem dX8_load_61 : decode cX8_load 61 = .ok (.getfield 28, 3) := by decide +kernel
theorem dX8_load_64 : decode cX8_load 64 = .ok (.aload_n 0, 1) := by decide +kernel
theorem dX8_load_65 : decode cX8_load 65 = .ok (.getfield 21, 3) := by decide +kernel
theorem dX8_load_68 : decode cX8_load 68 = .ok (.invokevirtual 76, 3) := by decide +kernel
theorem dX8_load_71 : decode cX8_load 71 = .ok (.invokevirtual 80, 3) := by decide +kernel
theorem dX8_load_74 : decode cX8_load 74 = .ok (.aload_n 0, 1) := by decide +kernel
theorem dX8_load_75 : decode cX8_load 75 = .ok (.getfield 28, 3) := by decide +kernel
theorem dX8_load_78 : decode cX8_load 78 = .ok (.getfield 83, 3) := by decide +kernel
theorem dX8_load_81 : decode cX8_load 81 = .ok (.ireturn, 1) := by decide +kernel
theorem dX8_errorOffset_0 : decode cX8_errorOffset 0 = .ok (.aload_n 0, 1) := by decide +kernel
theorem dX8_errorOffset_1 : decode cX8_errorOffset 1 = .ok (.getfield 46, 3) := by decide +kernel
theorem dX8_errorOffset_4 : decode cX8_errorOffset 4 = .ok (.ireturn, 1) := by decide +kernel
theorem dX8_state_0 : decode cX8_state 0 = .ok (.iload_n 1, 1) := by decide +kernel
theorem dX8_state_1 : decode cX8_state 1 = .ok (.tableswitch 157 0 8 #[51, 59, 67, 78, 100, 122, 133, 141, 149], 51) := by decide +kernel
theorem dX8_state_52 : decode cX8_state 52 = .ok (.aload_n 0, 1) := by decide +kernel
theorem dX8_state_53 : decode cX8_state 53 = .ok (.getfield 28, 3) := by decide +kernel
theorem dX8_state_56 : decode cX8_state 56 = .ok (.getfield 86, 3) := by decide +kernel
theorem dX8_state_59 : decode cX8_state 59 = .ok (.ireturn, 1) := by decide +kernel
theorem dX8_state_60 : decode cX8_state 60 = .ok (.aload_n 0, 1) := by decide +kernel
theorem dX8_state_61 : decode cX8_state 61 = .ok (.getfield 28, 3) := by decide +kernel
theorem dX8_state_64 : decode cX8_state 64 = .ok (.getfield 83, 3) := by decide +kernel
theorem dX8_state_67 : decode cX8_state 67 = .ok (.ireturn, 1) := by decide +kernel
theorem dX8_state_68 : decode cX8_state 68 = .ok (.aload_n 0, 1) := by decide +kernel
theorem dX8_state_69 : decode cX8_state 69 = .ok (.getfield 28, 3) := by decide +kernel
theorem dX8_state_72 : decode cX8_state 72 = .ok (.getfield 89, 3) := by decide +kernel
theorem dX8_state_75 : decode cX8_state 75 = .ok (.invokevirtual 93, 3) := by decide +kernel
theorem dX8_state_78 : decode cX8_state 78 = .ok (.ireturn, 1) := by decide +kernel
theorem dX8_state_79 : decode cX8_state 79 = .ok (.aload_n 0, 1) := by decide +kernel
theorem dX8_state_80 : decode cX8_state 80 = .ok (.getfield 28, 3) := by decide +kernel
theorem dX8_state_83 : decode cX8_state 83 = .ok (.invokevirtual 98, 3) := by decide +kernel
theorem dX8_state_86 : decode cX8_state 86 = .ok (.ifCond .eq 7, 3) := by decide +kernel
theorem dX8_state_89 : decode cX8_state 89 = .ok (.iconst (-1), 1) := by decide +kernel
theorem dX8_state_90 : decode cX8_state 90 = .ok (.goto 10, 3) := by decide +kernel
theorem dX8_state_93 : decode cX8_state 93 = .ok (.aload_n 0, 1) := by decide +kernel
theorem dX8_state_94 : decode cX8_state 94 = .ok (.getfield 28, 3) := by decide +kernel
theorem dX8_state_97 : decode cX8_state 97 = .ok (.getfield 101, 3) := by decide +kernel
theorem dX8_state_100 : decode cX8_state 100 = .ok (.ireturn, 1) := by decide +kernel
theorem dX8_state_101 : decode cX8_state 101 = .ok (.aload_n 0, 1) := by decide +kernel
theorem dX8_state_102 : decode cX8_state 102 = .ok (.getfield 28, 3) := by decide +kernel
theorem dX8_state_105 : decode cX8_state 105 = .ok (.invokevirtual 98, 3) := by decide +kernel
theorem dX8_state_108 : decode cX8_state 108 = .ok (.ifCond .eq 7, 3) := by decide +kernel
theorem dX8_state_111 : decode cX8_state 111 = .ok (.iconst (-1), 1) := by decide +kernel
theorem dX8_state_112 : decode cX8_state 112 = .ok (.goto 10, 3) := by decide +kernel
theorem dX8_state_115 : decode cX8_state 115 = .ok (.aload_n 0, 1) := by decide +kernel
theorem dX8_state_116 : decode cX8_state 116 = .ok (.getfield 28, 3) := by decide +kernel
theorem dX8_state_119 : decode cX8_state 119 = .ok (.getfield 104, 3) := by decide +kernel
theorem dX8_state_122 : decode cX8_state 122 = .ok (.ireturn, 1) := by decide +kernel
theorem dX8_state_123 : decode cX8_state 123 = .ok (.aload_n 0, 1) := by decide +kernel
theorem dX8_state_124 : decode cX8_state 124 = .ok (.getfield 28, 3) := by decide +kernel
theorem dX8_state_127 : decode cX8_state 127 = .ok (.getfield 107, 3) := by decide +kernel
theorem dX8_state_130 : decode cX8_state 130 = .ok (.invokevirtual 93, 3) := by decide +kernel
theorem dX8_state_133 : decode cX8_state 133 = .ok (.ireturn, 1) := by decide +kernel
theorem dX8_state_134 : decode cX8_state 134 = .ok (.aload_n 0, 1) := by decide +kernel
theorem dX8_state_135 : decode cX8_state 135 = .ok (.getfield 28, 3) := by decide +kernel
theorem dX8_state_138 : decode cX8_state 138 = .ok (.getfield 110, 3) := by decide +kernel
theorem dX8_state_141 : decode cX8_state 141 = .ok (.ireturn, 1) := by decide +kernel
theorem dX8_state_142 : decode cX8_state 142 = .ok (.aload_n 0, 1) := by decide +kernel
theorem dX8_state_143 : decode cX8_state 143 = .ok (.getfield 28, 3) := by decide +kernel
theorem dX8_state_146 : decode cX8_state 146 = .ok (.getfield 113, 3) := by decide +kernel
theorem dX8_state_149 : decode cX8_state 149 = .ok (.ireturn, 1) := by decide +kernel
theorem dX8_state_150 : decode cX8_state 150 = .ok (.aload_n 0, 1) := by decide +kernel
theorem dX8_state_151 : decode cX8_state 151 = .ok (.getfield 28, 3) := by decide +kernel
theorem dX8_state_154 : decode cX8_state 154 = .ok (.getfield 116, 3) := by decide +kernel
theorem dX8_state_157 : decode cX8_state 157 = .ok (.ireturn, 1) := by decide +kernel
theorem dX8_state_158 : decode cX8_state 158 = .ok (.new 62, 3) := by decide +kernel
theorem dX8_state_161 : decode cX8_state 161 = .ok (.dup, 1) := by decide +kernel
theorem dX8_state_162 : decode cX8_state 162 = .ok (.invokespecial 64, 3) := by decide +kernel
theorem dX8_state_165 : decode cX8_state 165 = .ok (.athrow, 1) := by decide +kernel
theorem dX8_player_0 : decode cX8_player 0 = .ok (.aload_n 0, 1) := by decide +kernel
theorem dX8_player_1 : decode cX8_player 1 = .ok (.iload_n 1, 1) := by decide +kernel
theorem dX8_player_2 : decode cX8_player 2 = .ok (.invokevirtual 119, 3) := by decide +kernel
theorem dX8_player_5 : decode cX8_player 5 = .ok (.astore_n 3, 1) := by decide +kernel
theorem dX8_player_6 : decode cX8_player 6 = .ok (.iload_n 2, 1) := by decide +kernel
theorem dX8_player_7 : decode cX8_player 7 = .ok (.tableswitch 43 0 2 #[25, 30, 38], 25) := by decide +kernel
theorem dX8_player_32 : decode cX8_player 32 = .ok (.aload_n 3, 1) := by decide +kernel
theorem dX8_player_33 : decode cX8_player 33 = .ok (.getfield 123, 3) := by decide +kernel
theorem dX8_player_36 : decode cX8_player 36 = .ok (.ireturn, 1) := by decide +kernel
theorem dX8_player_37 : decode cX8_player 37 = .ok (.aload_n 3, 1) := by decide +kernel
theorem dX8_player_38 : decode cX8_player 38 = .ok (.getfield 128, 3) := by decide +kernel
theorem dX8_player_41 : decode cX8_player 41 = .ok (.invokevirtual 93, 3) := by decide +kernel
theorem dX8_player_44 : decode cX8_player 44 = .ok (.ireturn, 1) := by decide +kernel
theorem dX8_player_45 : decode cX8_player 45 = .ok (.aload_n 3, 1) := by decide +kernel
theorem dX8_player_46 : decode cX8_player 46 = .ok (.getfield 131, 3) := by decide +kernel
theorem dX8_player_49 : decode cX8_player 49 = .ok (.ireturn, 1) := by decide +kernel
theorem dX8_player_50 : decode cX8_player 50 = .ok (.new 62, 3) := by decide +kernel
theorem dX8_player_53 : decode cX8_player 53 = .ok (.dup, 1) := by decide +kernel
theorem dX8_player_54 : decode cX8_player 54 = .ok (.invokespecial 64, 3) := by decide +kernel
theorem dX8_player_57 : decode cX8_player 57 = .ok (.athrow, 1) := by decide +kernel
theorem dX8_card_0 : decode cX8_card 0 = .ok (.aload_n 0, 1) := by decide +kernel
theorem dX8_card_1 : decode cX8_card 1 = .ok (.iload_n 1, 1) := by decide +kernel
theorem dX8_card_2 : decode cX8_card 2 = .ok (.invokevirtual 119, 3) := by decide +kernel
theorem dX8_card_5 : decode cX8_card 5 = .ok (.astore 4, 2) := by decide +kernel
theorem dX8_card_7 : decode cX8_card 7 = .ok (.aload 4, 2) := by decide +kernel
theorem dX8_card_9 : decode cX8_card 9 = .ok (.getfield 128, 3) := by decide +kernel
theorem dX8_card_12 : decode cX8_card 12 = .ok (.iload_n 2, 1) := by decide +kernel
theorem dX8_card_13 : decode cX8_card 13 = .ok (.invokevirtual 134, 3) := by decide +kernel
theorem dX8_card_16 : decode cX8_card 16 = .ok (.ifCond .ne 11, 3) := by decide +kernel
theorem dX8_card_19 : decode cX8_card 19 = .ok (.new 138, 3) := by decide +kernel
theorem dX8_card_22 : decode cX8_card 22 = .ok (.dup, 1) := by decide +kernel
theorem dX8_card_23 : decode cX8_card 23 = .ok (.invokespecial 140, 3) := by decide +kernel
theorem dX8_card_26 : decode cX8_card 26 = .ok (.athrow, 1) := by decide +kernel
theorem dX8_card_27 : decode cX8_card 27 = .ok (.iload_n 3, 1) := by decide +kernel
theorem dX8_card_28 : decode cX8_card 28 = .ok (.tableswitch 63 0 2 #[28, 42, 52], 28) := by decide +kernel
theorem dX8_card_56 : decode cX8_card 56 = .ok (.aload_n 0, 1) := by decide +kernel
theorem dX8_card_57 : decode cX8_card 57 = .ok (.aload 4, 2) := by decide +kernel
theorem dX8_card_59 : decode cX8_card 59 = .ok (.getfield 128, 3) := by decide +kernel
theorem dX8_card_62 : decode cX8_card 62 = .ok (.iload_n 2, 1) := by decide +kernel
theorem dX8_card_63 : decode cX8_card 63 = .ok (.invokevirtual 141, 3) := by decide +kernel
theorem dX8_card_66 : decode cX8_card 66 = .ok (.invokevirtual 144, 3) := by decide +kernel
theorem dX8_card_69 : decode cX8_card 69 = .ok (.ireturn, 1) := by decide +kernel
theorem dX8_card_70 : decode cX8_card 70 = .ok (.aload 4, 2) := by decide +kernel
theorem dX8_card_72 : decode cX8_card 72 = .ok (.getfield 147, 3) := by decide +kernel
theorem dX8_card_75 : decode cX8_card 75 = .ok (.iload_n 2, 1) := by decide +kernel
theorem dX8_card_76 : decode cX8_card 76 = .ok (.invokevirtual 141, 3) := by decide +kernel
theorem dX8_card_79 : decode cX8_card 79 = .ok (.ireturn, 1) := by decide +kernel
theorem dX8_card_80 : decode cX8_card 80 = .ok (.aload_n 0, 1) := by decide +kernel
theorem dX8_card_81 : decode cX8_card 81 = .ok (.getfield 28, 3) := by decide +kernel
theorem dX8_card_84 : decode cX8_card 84 = .ok (.aload 4, 2) := by decide +kernel
theorem dX8_card_86 : decode cX8_card 86 = .ok (.iload_n 2, 1) := by decide +kernel
theorem dX8_card_87 : decode cX8_card 87 = .ok (.invokevirtual 150, 3) := by decide +kernel
theorem dX8_card_90 : decode cX8_card 90 = .ok (.ireturn, 1) := by decide +kernel
theorem dX8_card_91 : decode cX8_card 91 = .ok (.new 62, 3) := by decide +kernel
theorem dX8_card_94 : decode cX8_card 94 = .ok (.dup, 1) := by decide +kernel
theorem dX8_card_95 : decode cX8_card 95 = .ok (.invokespecial 64, 3) := by decide +kernel
theorem dX8_card_98 : decode cX8_card 98 = .ok (.athrow, 1) := by decide +kernel
theorem dX8_bid_0 : decode cX8_bid 0 = .ok (.aload_n 0, 1) := by decide +kernel
theorem dX8_bid_1 : decode cX8_bid 1 = .ok (.getfield 28, 3) := by decide +kernel
theorem dX8_bid_4 : decode cX8_bid 4 = .ok (.getfield 107, 3) := by decide +kernel
theorem dX8_bid_7 : decode cX8_bid 7 = .ok (.iload_n 1, 1) := by decide +kernel
theorem dX8_bid_8 : decode cX8_bid 8 = .ok (.invokevirtual 134, 3) := by decide +kernel
theorem dX8_bid_11 : decode cX8_bid 11 = .ok (.ifCond .ne 11, 3) := by decide +kernel
theorem dX8_bid_14 : decode cX8_bid 14 = .ok (.new 138, 3) := by decide +kernel
theorem dX8_bid_17 : decode cX8_bid 17 = .ok (.dup, 1) := by decide +kernel
theorem dX8_bid_18 : decode cX8_bid 18 = .ok (.invokespecial 140, 3) := by decide +kernel
theorem dX8_bid_21 : decode cX8_bid 21 = .ok (.athrow, 1) := by decide +kernel
theorem dX8_bid_22 : decode cX8_bid 22 = .ok (.iload_n 2, 1) := by decide +kernel
theorem dX8_bid_23 : decode cX8_bid 23 = .ok (.tableswitch 65 0 2 #[25, 37, 53], 25) := by decide +kernel
theorem dX8_bid_48 : decode cX8_bid 48 = .ok (.aload_n 0, 1) := by decide +kernel
theorem dX8_bid_49 : decode cX8_bid 49 = .ok (.getfield 28, 3) := by decide +kernel
theorem dX8_bid_52 : decode cX8_bid 52 = .ok (.getfield 154, 3) := by decide +kernel
theorem dX8_bid_55 : decode cX8_bid 55 = .ok (.iload_n 1, 1) := by decide +kernel
theorem dX8_bid_56 : decode cX8_bid 56 = .ok (.invokevirtual 141, 3) := by decide +kernel
theorem dX8_bid_59 : decode cX8_bid 59 = .ok (.ireturn, 1) := by decide +kernel
theorem dX8_bid_60 : decode cX8_bid 60 = .ok (.aload_n 0, 1) := by decide +kernel
theorem dX8_bid_61 : decode cX8_bid 61 = .ok (.aload_n 0, 1) := by decide +kernel
theorem dX8_bid_62 : decode cX8_bid 62 = .ok (.getfield 28, 3) := by decide +kernel
theorem dX8_bid_65 : decode cX8_bid 65 = .ok (.getfield 107, 3) := by decide +kernel
theorem dX8_bid_68 : decode cX8_bid 68 = .ok (.iload_n 1, 1) := by decide +kernel
theorem dX8_bid_69 : decode cX8_bid 69 = .ok (.invokevirtual 141, 3) := by decide +kernel
theorem dX8_bid_72 : decode cX8_bid 72 = .ok (.invokevirtual 144, 3) := by decide +kernel
theorem dX8_bid_75 : decode cX8_bid 75 = .ok (.ireturn, 1) := by decide +kernel
theorem dX8_bid_76 : decode cX8_bid 76 = .ok (.aload_n 0, 1) := by decide +kernel
theorem dX8_bid_77 : decode cX8_bid 77 = .ok (.getfield 28, 3) := by decide +kernel
theorem dX8_bid_80 : decode cX8_bid 80 = .ok (.getfield 157, 3) := by decide +kernel
theorem dX8_bid_83 : decode cX8_bid 83 = .ok (.iload_n 1, 1) := by decide +kernel
theorem dX8_bid_84 : decode cX8_bid 84 = .ok (.invokevirtual 141, 3) := by decide +kernel
theorem dX8_bid_87 : decode cX8_bid 87 = .ok (.ireturn, 1) := by decide +kernel
theorem dX8_bid_88 : decode cX8_bid 88 = .ok (.new 62, 3) := by decide +kernel
theorem dX8_bid_91 : decode cX8_bid 91 = .ok (.dup, 1) := by decide +kernel
theorem dX8_bid_92 : decode cX8_bid 92 = .ok (.invokespecial 64, 3) := by decide +kernel
theorem dX8_bid_95 : decode cX8_bid 95 = .ok (.athrow, 1) := by decide +kernel
theorem dX8_product_0 : decode cX8_product 0 = .ok (.aload_n 0, 1) := by decide +kernel
theorem dX8_product_1 : decode cX8_product 1 = .ok (.aload_n 0, 1) := by decide +kernel
theorem dX8_product_2 : decode cX8_product 2 = .ok (.getfield 28, 3) := by decide +kernel
theorem dX8_product_5 : decode cX8_product 5 = .ok (.iconst 0, 1) := by decide +kernel
theorem dX8_product_6 : decode cX8_product 6 = .ok (.aload_n 0, 1) := by decide +kernel
theorem dX8_product_7 : decode cX8_product 7 = .ok (.getfield 28, 3) := by decide +kernel
theorem dX8_product_10 : decode cX8_product 10 = .ok (.getfield 107, 3) := by decide +kernel
theorem dX8_product_13 : decode cX8_product 13 = .ok (.invokevirtual 93, 3) := by decide +kernel
theorem dX8_product_16 : decode cX8_product 16 = .ok (.invokevirtual 160, 3) := by decide +kernel
theorem dX8_product_19 : decode cX8_product 19 = .ok (.invokevirtual 144, 3) := by decide +kernel
theorem dX8_product_22 : decode cX8_product 22 = .ok (.ireturn, 1) := by decide +kernel
theorem dX8_productOf_0 : decode cX8_productOf 0 = .ok (.iload_n 1, 1) := by decide +kernel
theorem dX8_productOf_1 : decode cX8_productOf 1 = .ok (.ifCond .lt 22, 3) := by decide +kernel
theorem dX8_productOf_4 : decode cX8_productOf 4 = .ok (.iload_n 2, 1) := by decide +kernel
theorem dX8_productOf_5 : decode cX8_productOf 5 = .ok (.iload_n 1, 1) := by decide +kernel
theorem dX8_productOf_6 : decode cX8_productOf 6 = .ok (.if_icmp .lt 17, 3) := by decide +kernel
theorem dX8_productOf_9 : decode cX8_productOf 9 = .ok (.iload_n 2, 1) := by decide +kernel
theorem dX8_productOf_10 : decode cX8_productOf 10 = .ok (.aload_n 0, 1) := by decide +kernel
theorem dX8_productOf_11 : decode cX8_productOf 11 = .ok (.getfield 28, 3) := by decide +kernel
theorem dX8_productOf_14 : decode cX8_productOf 14 = .ok (.getfield 107, 3) := by decide +kernel
theorem dX8_productOf_17 : decode cX8_productOf 17 = .ok (.invokevirtual 93, 3) := by decide +kernel
theorem dX8_productOf_20 : decode cX8_productOf 20 = .ok (.if_icmp .le 11, 3) := by decide +kernel
theorem dX8_productOf_23 : decode cX8_productOf 23 = .ok (.new 62, 3) := by decide +kernel
theorem dX8_productOf_26 : decode cX8_productOf 26 = .ok (.dup, 1) := by decide +kernel
theorem dX8_productOf_27 : decode cX8_productOf 27 = .ok (.invokespecial 64, 3) := by decide +kernel
theorem dX8_productOf_30 : decode cX8_productOf 30 = .ok (.athrow, 1) := by decide +kernel
theorem dX8_productOf_31 : decode cX8_productOf 31 = .ok (.aload_n 0, 1) := by decide +kernel
theorem dX8_productOf_32 : decode cX8_productOf 32 = .ok (.aload_n 0, 1) := by decide +kernel
theorem dX8_productOf_33 : decode cX8_productOf 33 = .ok (.getfield 28, 3) := by decide +kernel
theorem dX8_productOf_36 : decode cX8_productOf 36 = .ok (.iload_n 1, 1) := by decide +kernel
theorem dX8_productOf_37 : decode cX8_productOf 37 = .ok (.iload_n 2, 1) := by decide +kernel
theorem dX8_productOf_38 : decode cX8_productOf 38 = .ok (.invokevirtual 160, 3) := by decide +kernel
theorem dX8_productOf_41 : decode cX8_productOf 41 = .ok (.invokevirtual 144, 3) := by decide +kernel
theorem dX8_productOf_44 : decode cX8_productOf 44 = .ok (.ireturn, 1) := by decide +kernel
theorem dX8_order_0 : decode cX8_order 0 = .ok (.aload_n 0, 1) := by decide +kernel
theorem dX8_order_1 : decode cX8_order 1 = .ok (.getfield 10, 3) := by decide +kernel
theorem dX8_order_4 : decode cX8_order 4 = .ok (.aload_n 0, 1) := by decide +kernel
theorem dX8_order_5 : decode cX8_order 5 = .ok (.iload_n 1, 1) := by decide +kernel
theorem dX8_order_6 : decode cX8_order 6 = .ok (.invokevirtual 164, 3) := by decide +kernel
theorem dX8_order_9 : decode cX8_order 9 = .ok (.invokevirtual 173, 3) := by decide +kernel
theorem dX8_order_12 : decode cX8_order 12 = .ok (.ireturn, 1) := by decide +kernel
theorem dX8_reach_0 : decode cX8_reach 0 = .ok (.aload_n 0, 1) := by decide +kernel
theorem dX8_reach_1 : decode cX8_reach 1 = .ok (.getfield 42, 3) := by decide +kernel
theorem dX8_reach_4 : decode cX8_reach 4 = .ok (.aload_n 0, 1) := by decide +kernel
theorem dX8_reach_5 : decode cX8_reach 5 = .ok (.iload_n 1, 1) := by decide +kernel
theorem dX8_reach_6 : decode cX8_reach 6 = .ok (.invokevirtual 119, 3) := by decide +kernel
theorem dX8_reach_9 : decode cX8_reach 9 = .ok (.aload_n 0, 1) := by decide +kernel
theorem dX8_reach_10 : decode cX8_reach 10 = .ok (.getfield 28, 3) := by decide +kernel
theorem dX8_reach_13 : decode cX8_reach 13 = .ok (.getfield 86, 3) := by decide +kernel
theorem dX8_reach_16 : decode cX8_reach 16 = .ok (.invokevirtual 176, 3) := by decide +kernel
theorem dX8_reach_19 : decode cX8_reach 19 = .ok (.aload_n 0, 1) := by decide +kernel
theorem dX8_reach_20 : decode cX8_reach 20 = .ok (.getfield 42, 3) := by decide +kernel
theorem dX8_reach_23 : decode cX8_reach 23 = .ok (.invokevirtual 180, 3) := by decide +kernel
theorem dX8_reach_26 : decode cX8_reach 26 = .ok (.ireturn, 1) := by decide +kernel
theorem dX8_fewest_0 : decode cX8_fewest 0 = .ok (.aload_n 0, 1) := by decide +kernel
theorem dX8_fewest_1 : decode cX8_fewest 1 = .ok (.getfield 42, 3) := by decide +kernel
theorem dX8_fewest_4 : decode cX8_fewest 4 = .ok (.aload_n 0, 1) := by decide +kernel
theorem dX8_fewest_5 : decode cX8_fewest 5 = .ok (.iload_n 1, 1) := by decide +kernel
theorem dX8_fewest_6 : decode cX8_fewest 6 = .ok (.invokevirtual 119, 3) := by decide +kernel
theorem dX8_fewest_9 : decode cX8_fewest 9 = .ok (.aload_n 0, 1) := by decide +kernel
theorem dX8_fewest_10 : decode cX8_fewest 10 = .ok (.getfield 28, 3) := by decide +kernel
theorem dX8_fewest_13 : decode cX8_fewest 13 = .ok (.getfield 86, 3) := by decide +kernel
theorem dX8_fewest_16 : decode cX8_fewest 16 = .ok (.invokevirtual 176, 3) := by decide +kernel
theorem dX8_fewest_19 : decode cX8_fewest 19 = .ok (.aload_n 0, 1) := by decide +kernel
theorem dX8_fewest_20 : decode cX8_fewest 20 = .ok (.getfield 42, 3) := by decide +kernel
theorem dX8_fewest_23 : decode cX8_fewest 23 = .ok (.aload_n 0, 1) := by decide +kernel
theorem dX8_fewest_24 : decode cX8_fewest 24 = .ok (.getfield 28, 3) := by decide +kernel
theorem dX8_fewest_27 : decode cX8_fewest 27 = .ok (.invokevirtual 189, 3) := by decide +kernel
theorem dX8_fewest_30 : decode cX8_fewest 30 = .ok (.invokevirtual 192, 3) := by decide +kernel
theorem dX8_fewest_33 : decode cX8_fewest 33 = .ok (.ireturn, 1) := by decide +kernel
theorem dX8_play_0 : decode cX8_play 0 = .ok (.aload_n 0, 1) := by decide +kernel
theorem dX8_play_1 : decode cX8_play 1 = .ok (.invokevirtual 202, 3) := by decide +kernel
theorem dX8_play_4 : decode cX8_play 4 = .ok (.getfield 128, 3) := by decide +kernel
theorem dX8_play_7 : decode cX8_play 7 = .ok (.iload_n 1, 1) := by decide +kernel
theorem dX8_play_8 : decode cX8_play 8 = .ok (.invokevirtual 134, 3) := by decide +kernel
theorem dX8_play_11 : decode cX8_play 11 = .ok (.ifCond .ne 11, 3) := by decide +kernel
theorem dX8_play_14 : decode cX8_play 14 = .ok (.new 138, 3) := by decide +kernel
theorem dX8_play_17 : decode cX8_play 17 = .ok (.dup, 1) := by decide +kernel
theorem dX8_play_18 : decode cX8_play 18 = .ok (.invokespecial 140, 3) := by decide +kernel
theorem dX8_play_21 : decode cX8_play 21 = .ok (.athrow, 1) := by decide +kernel
theorem dX8_play_22 : decode cX8_play 22 = .ok (.aload_n 0, 1) := by decide +kernel
theorem dX8_play_23 : decode cX8_play 23 = .ok (.getfield 35, 3) := by decide +kernel
theorem dX8_play_26 : decode cX8_play 26 = .ok (.aload_n 0, 1) := by decide +kernel
theorem dX8_play_27 : decode cX8_play 27 = .ok (.getfield 28, 3) := by decide +kernel
theorem dX8_play_30 : decode cX8_play 30 = .ok (.invokevirtual 72, 3) := by decide +kernel
theorem dX8_play_33 : decode cX8_play 33 = .ok (.aload_n 0, 1) := by decide +kernel
theorem dX8_play_34 : decode cX8_play 34 = .ok (.getfield 28, 3) := by decide +kernel
theorem dX8_play_37 : decode cX8_play 37 = .ok (.iload_n 1, 1) := by decide +kernel
theorem dX8_play_38 : decode cX8_play 38 = .ok (.invokevirtual 206, 3) := by decide +kernel
theorem dX8_play_41 : decode cX8_play 41 = .ok (.ireturn, 1) := by decide +kernel
theorem dX8_cancel_0 : decode cX8_cancel 0 = .ok (.aload_n 0, 1) := by decide +kernel
theorem dX8_cancel_1 : decode cX8_cancel 1 = .ok (.invokevirtual 202, 3) := by decide +kernel
theorem dX8_cancel_4 : decode cX8_cancel 4 = .ok (.getfield 128, 3) := by decide +kernel
theorem dX8_cancel_7 : decode cX8_cancel 7 = .ok (.iload_n 1, 1) := by decide +kernel
theorem dX8_cancel_8 : decode cX8_cancel 8 = .ok (.invokevirtual 134, 3) := by decide +kernel
theorem dX8_cancel_11 : decode cX8_cancel 11 = .ok (.ifCond .eq 17, 3) := by decide +kernel
theorem dX8_cancel_14 : decode cX8_cancel 14 = .ok (.aload_n 0, 1) := by decide +kernel
theorem dX8_cancel_15 : decode cX8_cancel 15 = .ok (.getfield 28, 3) := by decide +kernel
theorem dX8_cancel_18 : decode cX8_cancel 18 = .ok (.getfield 107, 3) := by decide +kernel
theorem dX8_cancel_21 : decode cX8_cancel 21 = .ok (.iload_n 2, 1) := by decide +kernel
theorem dX8_cancel_22 : decode cX8_cancel 22 = .ok (.invokevirtual 134, 3) := by decide +kernel
theorem dX8_cancel_25 : decode cX8_cancel 25 = .ok (.ifCond .ne 11, 3) := by decide +kernel
theorem dX8_cancel_28 : decode cX8_cancel 28 = .ok (.new 138, 3) := by decide +kernel
theorem dX8_cancel_31 : decode cX8_cancel 31 = .ok (.dup, 1) := by decide +kernel
theorem dX8_cancel_32 : decode cX8_cancel 32 = .ok (.invokespecial 140, 3) := by decide +kernel
theorem dX8_cancel_35 : decode cX8_cancel 35 = .ok (.athrow, 1) := by decide +kernel
theorem dX8_cancel_36 : decode cX8_cancel 36 = .ok (.aload_n 0, 1) := by decide +kernel
theorem dX8_cancel_37 : decode cX8_cancel 37 = .ok (.getfield 35, 3) := by decide +kernel
theorem dX8_cancel_40 : decode cX8_cancel 40 = .ok (.aload_n 0, 1) := by decide +kernel
theorem dX8_cancel_41 : decode cX8_cancel 41 = .ok (.getfield 28, 3) := by decide +kernel
theorem dX8_cancel_44 : decode cX8_cancel 44 = .ok (.invokevirtual 72, 3) := by decide +kernel
theorem dX8_cancel_47 : decode cX8_cancel 47 = .ok (.aload_n 0, 1) := by decide +kernel
theorem dX8_cancel_48 : decode cX8_cancel 48 = .ok (.getfield 28, 3) := by decide +kernel
theorem dX8_cancel_51 : decode cX8_cancel 51 = .ok (.iload_n 1, 1) := by decide +kernel
theorem dX8_cancel_52 : decode cX8_cancel 52 = .ok (.iload_n 2, 1) := by decide +kernel
theorem dX8_cancel_53 : decode cX8_cancel 53 = .ok (.invokevirtual 209, 3) := by decide +kernel
theorem dX8_cancel_56 : decode cX8_cancel 56 = .ok (.ireturn, 1) := by decide +kernel
theorem dX8_pass_0 : decode cX8_pass 0 = .ok (.aload_n 0, 1) := by decide +kernel
theorem dX8_pass_1 : decode cX8_pass 1 = .ok (.getfield 28, 3) := by decide +kernel
theorem dX8_pass_4 : decode cX8_pass 4 = .ok (.invokevirtual 98, 3) := by decide +kernel
theorem dX8_pass_7 : decode cX8_pass 7 = .ok (.ifCond .eq 11, 3) := by decide +kernel
theorem dX8_pass_10 : decode cX8_pass 10 = .ok (.new 212, 3) := by decide +kernel
theorem dX8_pass_13 : decode cX8_pass 13 = .ok (.dup, 1) := by decide +kernel
theorem dX8_pass_14 : decode cX8_pass 14 = .ok (.invokespecial 214, 3) := by decide +kernel
theorem dX8_pass_17 : decode cX8_pass 17 = .ok (.athrow, 1) := by decide +kernel
theorem dX8_pass_18 : decode cX8_pass 18 = .ok (.aload_n 0, 1) := by decide +kernel
theorem dX8_pass_19 : decode cX8_pass 19 = .ok (.getfield 35, 3) := by decide +kernel
theorem dX8_pass_22 : decode cX8_pass 22 = .ok (.aload_n 0, 1) := by decide +kernel
theorem dX8_pass_23 : decode cX8_pass 23 = .ok (.getfield 28, 3) := by decide +kernel
theorem dX8_pass_26 : decode cX8_pass 26 = .ok (.invokevirtual 72, 3) := by decide +kernel
theorem dX8_pass_29 : decode cX8_pass 29 = .ok (.aload_n 0, 1) := by decide +kernel
theorem dX8_pass_30 : decode cX8_pass 30 = .ok (.getfield 28, 3) := by decide +kernel
theorem dX8_pass_33 : decode cX8_pass 33 = .ok (.invokevirtual 215, 3) := by decide +kernel
theorem dX8_pass_36 : decode cX8_pass 36 = .ok (.ireturn, 1) := by decide +kernel
theorem dX8_give_0 : decode cX8_give 0 = .ok (.aload_n 0, 1) := by decide +kernel
theorem dX8_give_1 : decode cX8_give 1 = .ok (.iload_n 1, 1) := by decide +kernel
theorem dX8_give_2 : decode cX8_give 2 = .ok (.invokevirtual 119, 3) := by decide +kernel
theorem dX8_give_5 : decode cX8_give 5 = .ok (.astore 4, 2) := by decide +kernel
theorem dX8_give_7 : decode cX8_give 7 = .ok (.aload_n 0, 1) := by decide +kernel
theorem dX8_give_8 : decode cX8_give 8 = .ok (.iload_n 2, 1) := by decide +kernel
theorem dX8_give_9 : decode cX8_give 9 = .ok (.invokevirtual 164, 3) := by decide +kernel
theorem dX8_give_12 : decode cX8_give 12 = .ok (.istore 5, 2) := by decide +kernel
theorem dX8_give_14 : decode cX8_give 14 = .ok (.iload_n 3, 1) := by decide +kernel
theorem dX8_give_15 : decode cX8_give 15 = .ok (.iconst 1, 1) := by decide +kernel
theorem dX8_give_16 : decode cX8_give 16 = .ok (.if_icmp .lt 10, 3) := by decide +kernel
theorem dX8_give_19 : decode cX8_give 19 = .ok (.iload_n 3, 1) := by decide +kernel
theorem dX8_give_20 : decode cX8_give 20 = .ok (.sipush 999, 3) := by decide +kernel
theorem dX8_give_23 : decode cX8_give 23 = .ok (.if_icmp .le 11, 3) := by decide +kernel
theorem dX8_give_26 : decode cX8_give 26 = .ok (.new 62, 3) := by decide +kernel
theorem dX8_give_29 : decode cX8_give 29 = .ok (.dup, 1) := by decide +kernel
theorem dX8_give_30 : decode cX8_give 30 = .ok (.invokespecial 64, 3) := by decide +kernel
theorem dX8_give_33 : decode cX8_give 33 = .ok (.athrow, 1) := by decide +kernel
theorem dX8_give_34 : decode cX8_give 34 = .ok (.aload 4, 2) := by decide +kernel
theorem dX8_give_36 : decode cX8_give 36 = .ok (.getfield 128, 3) := by decide +kernel
theorem dX8_give_39 : decode cX8_give 39 = .ok (.invokevirtual 218, 3) := by decide +kernel
theorem dX8_give_42 : decode cX8_give 42 = .ok (.ifCond .eq 11, 3) := by decide +kernel
theorem dX8_give_45 : decode cX8_give 45 = .ok (.new 212, 3) := by decide +kernel
theorem dX8_give_48 : decode cX8_give 48 = .ok (.dup, 1) := by decide +kernel
theorem dX8_give_49 : decode cX8_give 49 = .ok (.invokespecial 214, 3) := by decide +kernel
theorem dX8_give_52 : decode cX8_give 52 = .ok (.athrow, 1) := by decide +kernel
theorem dX8_give_53 : decode cX8_give 53 = .ok (.aload_n 0, 1) := by decide +kernel
theorem dX8_give_54 : decode cX8_give 54 = .ok (.getfield 35, 3) := by decide +kernel
theorem dX8_give_57 : decode cX8_give 57 = .ok (.aload_n 0, 1) := by decide +kernel
theorem dX8_give_58 : decode cX8_give 58 = .ok (.getfield 28, 3) := by decide +kernel
theorem dX8_give_61 : decode cX8_give 61 = .ok (.invokevirtual 72, 3) := by decide +kernel
theorem dX8_give_64 : decode cX8_give 64 = .ok (.aload 4, 2) := by decide +kernel
theorem dX8_give_66 : decode cX8_give 66 = .ok (.iload 5, 2) := by decide +kernel
theorem dX8_give_68 : decode cX8_give 68 = .ok (.iload_n 3, 1) := by decide +kernel
theorem dX8_give_69 : decode cX8_give 69 = .ok (.invokevirtual 221, 3) := by decide +kernel
theorem dX8_give_72 : decode cX8_give 72 = .ok (.aload 4, 2) := by decide +kernel
theorem dX8_give_74 : decode cX8_give 74 = .ok (.getfield 128, 3) := by decide +kernel
theorem dX8_give_77 : decode cX8_give 77 = .ok (.invokevirtual 93, 3) := by decide +kernel
theorem dX8_give_80 : decode cX8_give 80 = .ok (.ireturn, 1) := by decide +kernel
theorem dX8_discard_0 : decode cX8_discard 0 = .ok (.aload_n 0, 1) := by decide +kernel
theorem dX8_discard_1 : decode cX8_discard 1 = .ok (.iload_n 1, 1) := by decide +kernel
theorem dX8_discard_2 : decode cX8_discard 2 = .ok (.invokevirtual 119, 3) := by decide +kernel
theorem dX8_discard_5 : decode cX8_discard 5 = .ok (.astore_n 3, 1) := by decide +kernel
theorem dX8_discard_6 : decode cX8_discard 6 = .ok (.aload_n 3, 1) := by decide +kernel
theorem dX8_discard_7 : decode cX8_discard 7 = .ok (.getfield 128, 3) := by decide +kernel
theorem dX8_discard_10 : decode cX8_discard 10 = .ok (.iload_n 2, 1) := by decide +kernel
theorem dX8_discard_11 : decode cX8_discard 11 = .ok (.invokevirtual 134, 3) := by decide +kernel
theorem dX8_discard_14 : decode cX8_discard 14 = .ok (.ifCond .ne 11, 3) := by decide +kernel
theorem dX8_discard_17 : decode cX8_discard 17 = .ok (.new 138, 3) := by decide +kernel
theorem dX8_discard_20 : decode cX8_discard 20 = .ok (.dup, 1) := by decide +kernel
theorem dX8_discard_21 : decode cX8_discard 21 = .ok (.invokespecial 140, 3) := by decide +kernel
theorem dX8_discard_24 : decode cX8_discard 24 = .ok (.athrow, 1) := by decide +kernel
theorem dX8_discard_25 : decode cX8_discard 25 = .ok (.aload_n 0, 1) := by decide +kernel
theorem dX8_discard_26 : decode cX8_discard 26 = .ok (.getfield 35, 3) := by decide +kernel
theorem dX8_discard_29 : decode cX8_discard 29 = .ok (.aload_n 0, 1) := by decide +kernel
theorem dX8_discard_30 : decode cX8_discard 30 = .ok (.getfield 28, 3) := by decide +kernel
theorem dX8_discard_33 : decode cX8_discard 33 = .ok (.invokevirtual 72, 3) := by decide +kernel
theorem dX8_discard_36 : decode cX8_discard 36 = .ok (.aload_n 3, 1) := by decide +kernel
theorem dX8_discard_37 : decode cX8_discard 37 = .ok (.getfield 128, 3) := by decide +kernel
theorem dX8_discard_40 : decode cX8_discard 40 = .ok (.iload_n 2, 1) := by decide +kernel
theorem dX8_discard_41 : decode cX8_discard 41 = .ok (.invokevirtual 141, 3) := by decide +kernel
theorem dX8_discard_44 : decode cX8_discard 44 = .ok (.istore 4, 2) := by decide +kernel
theorem dX8_discard_46 : decode cX8_discard 46 = .ok (.aload_n 3, 1) := by decide +kernel
theorem dX8_discard_47 : decode cX8_discard 47 = .ok (.iload_n 2, 1) := by decide +kernel
theorem dX8_discard_48 : decode cX8_discard 48 = .ok (.invokevirtual 225, 3) := by decide +kernel
theorem dX8_discard_51 : decode cX8_discard 51 = .ok (.aload_n 0, 1) := by decide +kernel
theorem dX8_discard_52 : decode cX8_discard 52 = .ok (.iload 4, 2) := by decide +kernel
theorem dX8_discard_54 : decode cX8_discard 54 = .ok (.invokevirtual 144, 3) := by decide +kernel
theorem dX8_discard_57 : decode cX8_discard 57 = .ok (.ireturn, 1) := by decide +kernel
theorem dX8_undo_0 : decode cX8_undo 0 = .ok (.aload_n 0, 1) := by decide +kernel
theorem dX8_undo_1 : decode cX8_undo 1 = .ok (.getfield 35, 3) := by decide +kernel
theorem dX8_undo_4 : decode cX8_undo 4 = .ok (.invokevirtual 228, 3) := by decide +kernel
theorem dX8_undo_7 : decode cX8_undo 7 = .ok (.ifCond .ne 5, 3) := by decide +kernel
theorem dX8_undo_10 : decode cX8_undo 10 = .ok (.iconst (-1), 1) := by decide +kernel
theorem dX8_undo_11 : decode cX8_undo 11 = .ok (.ireturn, 1) := by decide +kernel
theorem dX8_undo_12 : decode cX8_undo 12 = .ok (.aload_n 0, 1) := by decide +kernel
theorem dX8_undo_13 : decode cX8_undo 13 = .ok (.getfield 35, 3) := by decide +kernel
theorem dX8_undo_16 : decode cX8_undo 16 = .ok (.aload_n 0, 1) := by decide +kernel
theorem dX8_undo_17 : decode cX8_undo 17 = .ok (.getfield 28, 3) := by decide +kernel
theorem dX8_undo_20 : decode cX8_undo 20 = .ok (.invokevirtual 229, 3) := by decide +kernel
theorem dX8_undo_23 : decode cX8_undo 23 = .ok (.aload_n 0, 1) := by decide +kernel
theorem dX8_undo_24 : decode cX8_undo 24 = .ok (.getfield 35, 3) := by decide +kernel
theorem dX8_undo_27 : decode cX8_undo 27 = .ok (.invokevirtual 228, 3) := by decide +kernel
theorem dX8_undo_30 : decode cX8_undo 30 = .ok (.ireturn, 1) := by decide +kernel
theorem dX8_checksum_0 : decode cX8_checksum 0 = .ok (.lconst 0, 1) := by decide +kernel
theorem dX8_checksum_1 : decode cX8_checksum 1 = .ok (.lstore_n 1, 1) := by decide +kernel
theorem dX8_checksum_2 : decode cX8_checksum 2 = .ok (.iconst 0, 1) := by decide +kernel
theorem dX8_checksum_3 : decode cX8_checksum 3 = .ok (.istore_n 3, 1) := by decide +kernel
theorem dX8_checksum_4 : decode cX8_checksum 4 = .ok (.iload_n 3, 1) := by decide +kernel
theorem dX8_checksum_5 : decode cX8_checksum 5 = .ok (.bipush 8, 2) := by decide +kernel
theorem dX8_checksum_7 : decode cX8_checksum 7 = .ok (.if_icmp .gt 22, 3) := by decide +kernel
theorem dX8_checksum_10 : decode cX8_checksum 10 = .ok (.ldc2_w 232, 3) := by decide +kernel
theorem dX8_checksum_13 : decode cX8_checksum 13 = .ok (.lload_n 1, 1) := by decide +kernel
theorem dX8_checksum_14 : decode cX8_checksum 14 = .ok (.lmul, 1) := by decide +kernel
theorem dX8_checksum_15 : decode cX8_checksum 15 = .ok (.aload_n 0, 1) := by decide +kernel
theorem dX8_checksum_16 : decode cX8_checksum 16 = .ok (.iload_n 3, 1) := by decide +kernel
theorem dX8_checksum_17 : decode cX8_checksum 17 = .ok (.invokevirtual 234, 3) := by decide +kernel
theorem dX8_checksum_20 : decode cX8_checksum 20 = .ok (.i2l, 1) := by decide +kernel
theorem dX8_checksum_21 : decode cX8_checksum 21 = .ok (.ladd, 1) := by decide +kernel
theorem dX8_checksum_22 : decode cX8_checksum 22 = .ok (.lstore_n 1, 1) := by decide +kernel
theorem dX8_checksum_23 : decode cX8_checksum 23 = .ok (.iinc 3 1, 3) := by decide +kernel
theorem dX8_checksum_26 : decode cX8_checksum 26 = .ok (.goto (-22), 3) := by decide +kernel
theorem dX8_checksum_29 : decode cX8_checksum 29 = .ok (.iconst 0, 1) := by decide +kernel
theorem dX8_checksum_30 : decode cX8_checksum 30 = .ok (.istore_n 3, 1) := by decide +kernel
theorem dX8_checksum_31 : decode cX8_checksum 31 = .ok (.iload_n 3, 1) := by decide +kernel
theorem dX8_checksum_32 : decode cX8_checksum 32 = .ok (.aload_n 0, 1) := by decide +kernel
theorem dX8_checksum_33 : decode cX8_checksum 33 = .ok (.getfield 28, 3) := by decide +kernel
theorem dX8_checksum_36 : decode cX8_checksum 36 = .ok (.getfield 83, 3) := by decide +kernel
theorem dX8_checksum_39 : decode cX8_checksum 39 = .ok (.if_icmp .ge 16, 3) := by decide +kernel
theorem dX8_checksum_42 : decode cX8_checksum 42 = .ok (.aload_n 0, 1) := by decide +kernel
theorem dX8_checksum_43 : decode cX8_checksum 43 = .ok (.lload_n 1, 1) := by decide +kernel
theorem dX8_checksum_44 : decode cX8_checksum 44 = .ok (.iload_n 3, 1) := by decide +kernel
theorem dX8_checksum_45 : decode cX8_checksum 45 = .ok (.invokevirtual 237, 3) := by decide +kernel
theorem dX8_checksum_48 : decode cX8_checksum 48 = .ok (.lstore_n 1, 1) := by decide +kernel
theorem dX8_checksum_49 : decode cX8_checksum 49 = .ok (.iinc 3 1, 3) := by decide +kernel
theorem dX8_checksum_52 : decode cX8_checksum 52 = .ok (.goto (-21), 3) := by decide +kernel
theorem dX8_checksum_55 : decode cX8_checksum 55 = .ok (.iconst 0, 1) := by decide +kernel
theorem dX8_checksum_56 : decode cX8_checksum 56 = .ok (.istore_n 3, 1) := by decide +kernel
theorem dX8_checksum_57 : decode cX8_checksum 57 = .ok (.iload_n 3, 1) := by decide +kernel
theorem dX8_checksum_58 : decode cX8_checksum 58 = .ok (.aload_n 0, 1) := by decide +kernel
theorem dX8_checksum_59 : decode cX8_checksum 59 = .ok (.getfield 28, 3) := by decide +kernel
theorem dX8_checksum_62 : decode cX8_checksum 62 = .ok (.getfield 107, 3) := by decide +kernel
theorem dX8_checksum_65 : decode cX8_checksum 65 = .ok (.invokevirtual 93, 3) := by decide +kernel
theorem dX8_checksum_68 : decode cX8_checksum 68 = .ok (.if_icmp .ge 39, 3) := by decide +kernel
theorem dX8_checksum_71 : decode cX8_checksum 71 = .ok (.iconst 0, 1) := by decide +kernel
theorem dX8_checksum_72 : decode cX8_checksum 72 = .ok (.istore 4, 2) := by decide +kernel
theorem dX8_checksum_74 : decode cX8_checksum 74 = .ok (.iload 4, 2) := by decide +kernel
theorem dX8_checksum_76 : decode cX8_checksum 76 = .ok (.iconst 2, 1) := by decide +kernel
theorem dX8_checksum_77 : decode cX8_checksum 77 = .ok (.if_icmp .gt 24, 3) := by decide +kernel
theorem dX8_checksum_80 : decode cX8_checksum 80 = .ok (.ldc2_w 232, 3) := by decide +kernel
theorem dX8_checksum_83 : decode cX8_checksum 83 = .ok (.lload_n 1, 1) := by decide +kernel
theorem dX8_checksum_84 : decode cX8_checksum 84 = .ok (.lmul, 1) := by decide +kernel
theorem dX8_checksum_85 : decode cX8_checksum 85 = .ok (.aload_n 0, 1) := by decide +kernel
theorem dX8_checksum_86 : decode cX8_checksum 86 = .ok (.iload_n 3, 1) := by decide +kernel
theorem dX8_checksum_87 : decode cX8_checksum 87 = .ok (.iload 4, 2) := by decide +kernel
theorem dX8_checksum_89 : decode cX8_checksum 89 = .ok (.invokevirtual 241, 3) := by decide +kernel
theorem dX8_checksum_92 : decode cX8_checksum 92 = .ok (.i2l, 1) := by decide +kernel
theorem dX8_checksum_93 : decode cX8_checksum 93 = .ok (.ladd, 1) := by decide +kernel
theorem dX8_checksum_94 : decode cX8_checksum 94 = .ok (.lstore_n 1, 1) := by decide +kernel
theorem dX8_checksum_95 : decode cX8_checksum 95 = .ok (.iinc 4 1, 3) := by decide +kernel
theorem dX8_checksum_98 : decode cX8_checksum 98 = .ok (.goto (-24), 3) := by decide +kernel
theorem dX8_checksum_101 : decode cX8_checksum 101 = .ok (.iinc 3 1, 3) := by decide +kernel
theorem dX8_checksum_104 : decode cX8_checksum 104 = .ok (.goto (-47), 3) := by decide +kernel
theorem dX8_checksum_107 : decode cX8_checksum 107 = .ok (.ldc2_w 232, 3) := by decide +kernel
theorem dX8_checksum_110 : decode cX8_checksum 110 = .ok (.lload_n 1, 1) := by decide +kernel
theorem dX8_checksum_111 : decode cX8_checksum 111 = .ok (.lmul, 1) := by decide +kernel
theorem dX8_checksum_112 : decode cX8_checksum 112 = .ok (.aload_n 0, 1) := by decide +kernel
theorem dX8_checksum_113 : decode cX8_checksum 113 = .ok (.invokevirtual 244, 3) := by decide +kernel
theorem dX8_checksum_116 : decode cX8_checksum 116 = .ok (.i2l, 1) := by decide +kernel
theorem dX8_checksum_117 : decode cX8_checksum 117 = .ok (.ladd, 1) := by decide +kernel
theorem dX8_checksum_118 : decode cX8_checksum 118 = .ok (.lreturn, 1) := by decide +kernel
theorem dX8_withPlayer_0 : decode cX8_withPlayer 0 = .ok (.lload_n 1, 1) := by decide +kernel
theorem dX8_withPlayer_1 : decode cX8_withPlayer 1 = .ok (.lstore 4, 2) := by decide +kernel
theorem dX8_withPlayer_3 : decode cX8_withPlayer 3 = .ok (.iconst 0, 1) := by decide +kernel
theorem dX8_withPlayer_4 : decode cX8_withPlayer 4 = .ok (.istore 6, 2) := by decide +kernel
theorem dX8_withPlayer_6 : decode cX8_withPlayer 6 = .ok (.iload 6, 2) := by decide +kernel
theorem dX8_withPlayer_8 : decode cX8_withPlayer 8 = .ok (.iconst 2, 1) := by decide +kernel
theorem dX8_withPlayer_9 : decode cX8_withPlayer 9 = .ok (.if_icmp .gt 26, 3) := by decide +kernel
theorem dX8_withPlayer_12 : decode cX8_withPlayer 12 = .ok (.ldc2_w 232, 3) := by decide +kernel
theorem dX8_withPlayer_15 : decode cX8_withPlayer 15 = .ok (.lload 4, 2) := by decide +kernel
theorem dX8_withPlayer_17 : decode cX8_withPlayer 17 = .ok (.lmul, 1) := by decide +kernel
theorem dX8_withPlayer_18 : decode cX8_withPlayer 18 = .ok (.aload_n 0, 1) := by decide +kernel
theorem dX8_withPlayer_19 : decode cX8_withPlayer 19 = .ok (.iload_n 3, 1) := by decide +kernel
theorem dX8_withPlayer_20 : decode cX8_withPlayer 20 = .ok (.iload 6, 2) := by decide +kernel
theorem dX8_withPlayer_22 : decode cX8_withPlayer 22 = .ok (.invokevirtual 247, 3) := by decide +kernel
theorem dX8_withPlayer_25 : decode cX8_withPlayer 25 = .ok (.i2l, 1) := by decide +kernel
theorem dX8_withPlayer_26 : decode cX8_withPlayer 26 = .ok (.ladd, 1) := by decide +kernel
theorem dX8_withPlayer_27 : decode cX8_withPlayer 27 = .ok (.lstore 4, 2) := by decide +kernel
theorem dX8_withPlayer_29 : decode cX8_withPlayer 29 = .ok (.iinc 6 1, 3) := by decide +kernel
theorem dX8_withPlayer_32 : decode cX8_withPlayer 32 = .ok (.goto (-26), 3) := by decide +kernel
theorem dX8_withPlayer_35 : decode cX8_withPlayer 35 = .ok (.aload_n 0, 1) := by decide +kernel
theorem dX8_withPlayer_36 : decode cX8_withPlayer 36 = .ok (.iload_n 3, 1) := by decide +kernel
theorem dX8_withPlayer_37 : decode cX8_withPlayer 37 = .ok (.iconst 1, 1) := by decide +kernel
theorem dX8_withPlayer_38 : decode cX8_withPlayer 38 = .ok (.invokevirtual 247, 3) := by decide +kernel
theorem dX8_withPlayer_41 : decode cX8_withPlayer 41 = .ok (.istore 6, 2) := by decide +kernel
theorem dX8_withPlayer_43 : decode cX8_withPlayer 43 = .ok (.iconst 0, 1) := by decide +kernel
theorem dX8_withPlayer_44 : decode cX8_withPlayer 44 = .ok (.istore 7, 2) := by decide +kernel
theorem dX8_withPlayer_46 : decode cX8_withPlayer 46 = .ok (.iload 7, 2) := by decide +kernel
theorem dX8_withPlayer_48 : decode cX8_withPlayer 48 = .ok (.iload 6, 2) := by decide +kernel
theorem dX8_withPlayer_50 : decode cX8_withPlayer 50 = .ok (.if_icmp .ge 43, 3) := by decide +kernel
theorem dX8_withPlayer_53 : decode cX8_withPlayer 53 = .ok (.iconst 0, 1) := by decide +kernel
theorem dX8_withPlayer_54 : decode cX8_withPlayer 54 = .ok (.istore 8, 2) := by decide +kernel
theorem dX8_withPlayer_56 : decode cX8_withPlayer 56 = .ok (.iload 8, 2) := by decide +kernel
theorem dX8_withPlayer_58 : decode cX8_withPlayer 58 = .ok (.iconst 2, 1) := by decide +kernel
theorem dX8_withPlayer_59 : decode cX8_withPlayer 59 = .ok (.if_icmp .gt 28, 3) := by decide +kernel
theorem dX8_withPlayer_62 : decode cX8_withPlayer 62 = .ok (.ldc2_w 232, 3) := by decide +kernel
theorem dX8_withPlayer_65 : decode cX8_withPlayer 65 = .ok (.lload 4, 2) := by decide +kernel
theorem dX8_withPlayer_67 : decode cX8_withPlayer 67 = .ok (.lmul, 1) := by decide +kernel
theorem dX8_withPlayer_68 : decode cX8_withPlayer 68 = .ok (.aload_n 0, 1) := by decide +kernel
theorem dX8_withPlayer_69 : decode cX8_withPlayer 69 = .ok (.iload_n 3, 1) := by decide +kernel
theorem dX8_withPlayer_70 : decode cX8_withPlayer 70 = .ok (.iload 7, 2) := by decide +kernel
theorem dX8_withPlayer_72 : decode cX8_withPlayer 72 = .ok (.iload 8, 2) := by decide +kernel
theorem dX8_withPlayer_74 : decode cX8_withPlayer 74 = .ok (.invokevirtual 250, 3) := by decide +kernel
theorem dX8_withPlayer_77 : decode cX8_withPlayer 77 = .ok (.i2l, 1) := by decide +kernel
theorem dX8_withPlayer_78 : decode cX8_withPlayer 78 = .ok (.ladd, 1) := by decide +kernel
theorem dX8_withPlayer_79 : decode cX8_withPlayer 79 = .ok (.lstore 4, 2) := by decide +kernel
theorem dX8_withPlayer_81 : decode cX8_withPlayer 81 = .ok (.iinc 8 1, 3) := by decide +kernel
theorem dX8_withPlayer_84 : decode cX8_withPlayer 84 = .ok (.goto (-28), 3) := by decide +kernel
theorem dX8_withPlayer_87 : decode cX8_withPlayer 87 = .ok (.iinc 7 1, 3) := by decide +kernel
theorem dX8_withPlayer_90 : decode cX8_withPlayer 90 = .ok (.goto (-44), 3) := by decide +kernel
theorem dX8_withPlayer_93 : decode cX8_withPlayer 93 = .ok (.lload 4, 2) := by decide +kernel
theorem dX8_withPlayer_95 : decode cX8_withPlayer 95 = .ok (.lreturn, 1) := by decide +kernel
theorem dX8_existing_0 : decode cX8_existing 0 = .ok (.aload_n 0, 1) := by decide +kernel
theorem dX8_existing_1 : decode cX8_existing 1 = .ok (.getfield 28, 3) := by decide +kernel
theorem dX8_existing_4 : decode cX8_existing 4 = .ok (.iload_n 1, 1) := by decide +kernel
theorem dX8_existing_5 : decode cX8_existing 5 = .ok (.invokevirtual 254, 3) := by decide +kernel
theorem dX8_existing_8 : decode cX8_existing 8 = .ok (.astore_n 2, 1) := by decide +kernel
theorem dX8_existing_9 : decode cX8_existing 9 = .ok (.aload_n 2, 1) := by decide +kernel
theorem dX8_existing_10 : decode cX8_existing 10 = .ok (.ifnonnull 11, 3) := by decide +kernel
theorem dX8_existing_13 : decode cX8_existing 13 = .ok (.new 257, 3) := by decide +kernel
theorem dX8_existing_16 : decode cX8_existing 16 = .ok (.dup, 1) := by decide +kernel
theorem dX8_existing_17 : decode cX8_existing 17 = .ok (.invokespecial 259, 3) := by decide +kernel
theorem dX8_existing_20 : decode cX8_existing 20 = .ok (.athrow, 1) := by decide +kernel
theorem dX8_existing_21 : decode cX8_existing 21 = .ok (.aload_n 2, 1) := by decide +kernel
theorem dX8_existing_22 : decode cX8_existing 22 = .ok (.areturn, 1) := by decide +kernel
theorem dX8_bidderInTurn_0 : decode cX8_bidderInTurn 0 = .ok (.aload_n 0, 1) := by decide +kernel
theorem dX8_bidderInTurn_1 : decode cX8_bidderInTurn 1 = .ok (.getfield 28, 3) := by decide +kernel
theorem dX8_bidderInTurn_4 : decode cX8_bidderInTurn 4 = .ok (.invokevirtual 98, 3) := by decide +kernel
theorem dX8_bidderInTurn_7 : decode cX8_bidderInTurn 7 = .ok (.ifCond .eq 7, 3) := by decide +kernel
theorem dX8_bidderInTurn_10 : decode cX8_bidderInTurn 10 = .ok (.aconst_null, 1) := by decide +kernel
theorem dX8_bidderInTurn_11 : decode cX8_bidderInTurn 11 = .ok (.goto 17, 3) := by decide +kernel
theorem dX8_bidderInTurn_14 : decode cX8_bidderInTurn 14 = .ok (.aload_n 0, 1) := by decide +kernel
theorem dX8_bidderInTurn_15 : decode cX8_bidderInTurn 15 = .ok (.getfield 28, 3) := by decide +kernel
theorem dX8_bidderInTurn_18 : decode cX8_bidderInTurn 18 = .ok (.aload_n 0, 1) := by decide +kernel
theorem dX8_bidderInTurn_19 : decode cX8_bidderInTurn 19 = .ok (.getfield 28, 3) := by decide +kernel
theorem dX8_bidderInTurn_22 : decode cX8_bidderInTurn 22 = .ok (.getfield 104, 3) := by decide +kernel
theorem dX8_bidderInTurn_25 : decode cX8_bidderInTurn 25 = .ok (.invokevirtual 254, 3) := by decide +kernel
theorem dX8_bidderInTurn_28 : decode cX8_bidderInTurn 28 = .ok (.astore_n 1, 1) := by decide +kernel
theorem dX8_bidderInTurn_29 : decode cX8_bidderInTurn 29 = .ok (.aload_n 1, 1) := by decide +kernel
theorem dX8_bidderInTurn_30 : decode cX8_bidderInTurn 30 = .ok (.ifnonnull 11, 3) := by decide +kernel
theorem dX8_bidderInTurn_33 : decode cX8_bidderInTurn 33 = .ok (.new 212, 3) := by decide +kernel
theorem dX8_bidderInTurn_36 : decode cX8_bidderInTurn 36 = .ok (.dup, 1) := by decide +kernel
theorem dX8_bidderInTurn_37 : decode cX8_bidderInTurn 37 = .ok (.invokespecial 214, 3) := by decide +kernel
theorem dX8_bidderInTurn_40 : decode cX8_bidderInTurn 40 = .ok (.athrow, 1) := by decide +kernel
theorem dX8_bidderInTurn_41 : decode cX8_bidderInTurn 41 = .ok (.aload_n 1, 1) := by decide +kernel
theorem dX8_bidderInTurn_42 : decode cX8_bidderInTurn 42 = .ok (.areturn, 1) := by decide +kernel
theorem dX8_elementOf_0 : decode cX8_elementOf 0 = .ok (.aload_n 0, 1) := by decide +kernel
theorem dX8_elementOf_1 : decode cX8_elementOf 1 = .ok (.getfield 10, 3) := by decide +kernel
theorem dX8_elementOf_4 : decode cX8_elementOf 4 = .ok (.iload_n 1, 1) := by decide +kernel
theorem dX8_elementOf_5 : decode cX8_elementOf 5 = .ok (.aload_n 0, 1) := by decide +kernel
theorem dX8_elementOf_6 : decode cX8_elementOf 6 = .ok (.getfield 28, 3) := by decide +kernel
theorem dX8_elementOf_9 : decode cX8_elementOf 9 = .ok (.getfield 86, 3) := by decide +kernel
theorem dX8_elementOf_12 : decode cX8_elementOf 12 = .ok (.invokevirtual 260, 3) := by decide +kernel
theorem dX8_elementOf_15 : decode cX8_elementOf 15 = .ok (.istore_n 2, 1) := by decide +kernel
theorem dX8_elementOf_16 : decode cX8_elementOf 16 = .ok (.iload_n 2, 1) := by decide +kernel
theorem dX8_elementOf_17 : decode cX8_elementOf 17 = .ok (.iconst (-1), 1) := by decide +kernel
theorem dX8_elementOf_18 : decode cX8_elementOf 18 = .ok (.if_icmp .ne 11, 3) := by decide +kernel
theorem dX8_elementOf_21 : decode cX8_elementOf 21 = .ok (.new 62, 3) := by decide +kernel
theorem dX8_elementOf_24 : decode cX8_elementOf 24 = .ok (.dup, 1) := by decide +kernel
theorem dX8_elementOf_25 : decode cX8_elementOf 25 = .ok (.invokespecial 64, 3) := by decide +kernel
theorem dX8_elementOf_28 : decode cX8_elementOf 28 = .ok (.athrow, 1) := by decide +kernel
theorem dX8_elementOf_29 : decode cX8_elementOf 29 = .ok (.iload_n 2, 1) := by decide +kernel
theorem dX8_elementOf_30 : decode cX8_elementOf 30 = .ok (.ireturn, 1) := by decide +kernel
theorem dX8_numberOf_0 : decode cX8_numberOf 0 = .ok (.aload_n 0, 1) := by decide +kernel
theorem dX8_numberOf_1 : decode cX8_numberOf 1 = .ok (.getfield 10, 3) := by decide +kernel
theorem dX8_numberOf_4 : decode cX8_numberOf 4 = .ok (.iload_n 1, 1) := by decide +kernel
theorem dX8_numberOf_5 : decode cX8_numberOf 5 = .ok (.aload_n 0, 1) := by decide +kernel
theorem dX8_numberOf_6 : decode cX8_numberOf 6 = .ok (.getfield 28, 3) := by decide +kernel
theorem dX8_numberOf_9 : decode cX8_numberOf 9 = .ok (.getfield 86, 3) := by decide +kernel
theorem dX8_numberOf_12 : decode cX8_numberOf 12 = .ok (.invokevirtual 263, 3) := by decide +kernel
theorem dX8_numberOf_15 : decode cX8_numberOf 15 = .ok (.ireturn, 1) := by decide +kernel
theorem dX9_init_0 : decode cX9_init 0 = .ok (.aload_n 0, 1) := by decide +kernel
theorem dX9_init_1 : decode cX9_init 1 = .ok (.invokespecial 1, 3) := by decide +kernel
theorem dX9_init_4 : decode cX9_init 4 = .ok (.aload_n 0, 1) := by decide +kernel
theorem dX9_init_5 : decode cX9_init 5 = .ok (.iload_n 1, 1) := by decide +kernel
theorem dX9_init_6 : decode cX9_init 6 = .ok (.putfield 7, 3) := by decide +kernel
theorem dX9_init_9 : decode cX9_init 9 = .ok (.aload_n 0, 1) := by decide +kernel
theorem dX9_init_10 : decode cX9_init 10 = .ok (.aload_n 2, 1) := by decide +kernel
theorem dX9_init_11 : decode cX9_init 11 = .ok (.putfield 13, 3) := by decide +kernel
theorem dX9_init_14 : decode cX9_init 14 = .ok (.aload_n 0, 1) := by decide +kernel
theorem dX9_init_15 : decode cX9_init 15 = .ok (.iload_n 3, 1) := by decide +kernel
theorem dX9_init_16 : decode cX9_init 16 = .ok (.putfield 17, 3) := by decide +kernel
theorem dX9_init_19 : decode cX9_init 19 = .ok (.return_, 1) := by decide +kernel
theorem dX10_init_0 : decode cX10_init 0 = .ok (.aload_n 0, 1) := by decide +kernel
theorem dX10_init_1 : decode cX10_init 1 = .ok (.invokespecial 1, 3) := by decide +kernel
theorem dX10_init_4 : decode cX10_init 4 = .ok (.return_, 1) := by decide +kernel
theorem dX10_random_0 : decode cX10_random 0 = .ok (.new 7, 3) := by decide +kernel
theorem dX10_random_3 : decode cX10_random 3 = .ok (.dup, 1) := by decide +kernel
theorem dX10_random_4 : decode cX10_random 4 = .ok (.invokespecial 9, 3) := by decide +kernel
theorem dX10_random_7 : decode cX10_random 7 = .ok (.astore_n 2, 1) := by decide +kernel
theorem dX10_random_8 : decode cX10_random 8 = .ok (.aload_n 2, 1) := by decide +kernel
theorem dX10_random_9 : decode cX10_random 9 = .ok (.iload_n 1, 1) := by decide +kernel
theorem dX10_random_10 : decode cX10_random 10 = .ok (.ifCond .ne 11, 3) := by decide +kernel
theorem dX10_random_13 : decode cX10_random 13 = .ok (.aload_n 0, 1) := by decide +kernel
theorem dX10_random_14 : decode cX10_random 14 = .ok (.iconst 2, 1) := by decide +kernel
theorem dX10_random_15 : decode cX10_random 15 = .ok (.invokevirtual 10, 3) := by decide +kernel
theorem dX10_random_18 : decode cX10_random 18 = .ok (.goto 9, 3) := by decide +kernel
theorem dX10_random_21 : decode cX10_random 21 = .ok (.aload_n 0, 1) := by decide +kernel
theorem dX10_random_22 : decode cX10_random 22 = .ok (.bipush 6, 2) := by decide +kernel
theorem dX10_random_24 : decode cX10_random 24 = .ok (.invokevirtual 10, 3) := by decide +kernel
theorem dX10_random_27 : decode cX10_random 27 = .ok (.putfield 16, 3) := by decide +kernel
theorem dX10_random_30 : decode cX10_random 30 = .ok (.aload_n 2, 1) := by decide +kernel
theorem dX10_random_31 : decode cX10_random 31 = .ok (.aload_n 2, 1) := by decide +kernel
theorem dX10_random_32 : decode cX10_random 32 = .ok (.getfield 16, 3) := by decide +kernel
theorem dX10_random_35 : decode cX10_random 35 = .ok (.ifCond .ne 27, 3) := by decide +kernel
theorem dX10_random_38 : decode cX10_random 38 = .ok (.aload_n 0, 1) := by decide +kernel
theorem dX10_random_39 : decode cX10_random 39 = .ok (.aload_n 0, 1) := by decide +kernel
theorem dX10_random_40 : decode cX10_random 40 = .ok (.bipush 8, 2) := by decide +kernel
theorem dX10_random_42 : decode cX10_random 42 = .ok (.invokevirtual 10, 3) := by decide +kernel
theorem dX10_random_45 : decode cX10_random 45 = .ok (.ifCond .ne 9, 3) := by decide +kernel
theorem dX10_random_48 : decode cX10_random 48 = .ok (.sipush 10000, 3) := by decide +kernel
theorem dX10_random_51 : decode cX10_random 51 = .ok (.goto 5, 3) := by decide +kernel
theorem dX10_random_54 : decode cX10_random 54 = .ok (.bipush 9, 2) := by decide +kernel
theorem dX10_random_56 : decode cX10_random 56 = .ok (.invokevirtual 10, 3) := by decide +kernel
theorem dX10_random_59 : decode cX10_random 59 = .ok (.goto 8, 3) := by decide +kernel
theorem dX10_random_62 : decode cX10_random 62 = .ok (.aload_n 0, 1) := by decide +kernel
theorem dX10_random_63 : decode cX10_random 63 = .ok (.iconst 4, 1) := by decide +kernel
theorem dX10_random_64 : decode cX10_random 64 = .ok (.invokevirtual 10, 3) := by decide +kernel
theorem dX10_random_67 : decode cX10_random 67 = .ok (.putfield 20, 3) := by decide +kernel
theorem dX10_random_70 : decode cX10_random 70 = .ok (.aload_n 2, 1) := by decide +kernel
theorem dX10_random_71 : decode cX10_random 71 = .ok (.getfield 16, 3) := by decide +kernel
theorem dX10_random_74 : decode cX10_random 74 = .ok (.iconst 1, 1) := by decide +kernel
theorem dX10_random_75 : decode cX10_random 75 = .ok (.if_icmp .le 25, 3) := by decide +kernel
theorem dX10_random_78 : decode cX10_random 78 = .ok (.aload_n 2, 1) := by decide +kernel
theorem dX10_random_79 : decode cX10_random 79 = .ok (.aload_n 0, 1) := by decide +kernel
theorem dX10_random_80 : decode cX10_random 80 = .ok (.iload_n 1, 1) := by decide +kernel
theorem dX10_random_81 : decode cX10_random 81 = .ok (.iconst 1, 1) := by decide +kernel
theorem dX10_random_82 : decode cX10_random 82 = .ok (.isub, 1) := by decide +kernel
theorem dX10_random_83 : decode cX10_random 83 = .ok (.invokestatic 23, 3) := by decide +kernel
theorem dX10_random_86 : decode cX10_random 86 = .ok (.putfield 27, 3) := by decide +kernel
theorem dX10_random_89 : decode cX10_random 89 = .ok (.aload_n 2, 1) := by decide +kernel
theorem dX10_random_90 : decode cX10_random 90 = .ok (.aload_n 0, 1) := by decide +kernel
theorem dX10_random_91 : decode cX10_random 91 = .ok (.iload_n 1, 1) := by decide +kernel
theorem dX10_random_92 : decode cX10_random 92 = .ok (.iconst 1, 1) := by decide +kernel
theorem dX10_random_93 : decode cX10_random 93 = .ok (.isub, 1) := by decide +kernel
theorem dX10_random_94 : decode cX10_random 94 = .ok (.invokestatic 23, 3) := by decide +kernel
theorem dX10_random_97 : decode cX10_random 97 = .ok (.putfield 31, 3) := by decide +kernel
theorem dX10_random_100 : decode cX10_random 100 = .ok (.aload_n 2, 1) := by decide +kernel
theorem dX10_random_101 : decode cX10_random 101 = .ok (.areturn, 1) := by decide +kernel
theorem dX10_text_0 : decode cX10_text 0 = .ok (.aload_n 0, 1) := by decide +kernel
theorem dX10_text_1 : decode cX10_text 1 = .ok (.getfield 16, 3) := by decide +kernel
theorem dX10_text_4 : decode cX10_text 4 = .ok (.ifCond .ne 26, 3) := by decide +kernel
theorem dX10_text_7 : decode cX10_text 7 = .ok (.new 34, 3) := by decide +kernel
theorem dX10_text_10 : decode cX10_text 10 = .ok (.dup, 1) := by decide +kernel
theorem dX10_text_11 : decode cX10_text 11 = .ok (.invokespecial 36, 3) := by decide +kernel
theorem dX10_text_14 : decode cX10_text 14 = .ok (.ldc 37, 2) := by decide +kernel
theorem dX10_text_16 : decode cX10_text 16 = .ok (.invokevirtual 39, 3) := by decide +kernel
theorem dX10_text_19 : decode cX10_text 19 = .ok (.aload_n 0, 1) := by decide +kernel
theorem dX10_text_20 : decode cX10_text 20 = .ok (.getfield 20, 3) := by decide +kernel
theorem dX10_text_23 : decode cX10_text 23 = .ok (.invokevirtual 43, 3) := by decide +kernel
theorem dX10_text_26 : decode cX10_text 26 = .ok (.invokevirtual 46, 3) := by decide +kernel
theorem dX10_text_29 : decode cX10_text 29 = .ok (.areturn, 1) := by decide +kernel
theorem dX10_text_30 : decode cX10_text 30 = .ok (.aload_n 0, 1) := by decide +kernel
theorem dX10_text_31 : decode cX10_text 31 = .ok (.getfield 16, 3) := by decide +kernel
theorem dX10_text_34 : decode cX10_text 34 = .ok (.iconst 1, 1) := by decide +kernel
theorem dX10_text_35 : decode cX10_text 35 = .ok (.if_icmp .ne 12, 3) := by decide +kernel
theorem dX10_text_38 : decode cX10_text 38 = .ok (.getstatic 50, 3) := by decide +kernel
theorem dX10_text_41 : decode cX10_text 41 = .ok (.aload_n 0, 1) := by decide +kernel
theorem dX10_text_42 : decode cX10_text 42 = .ok (.getfield 20, 3) := by decide +kernel
theorem dX10_text_45 : decode cX10_text 45 = .ok (.aaload, 1) := by decide +kernel
theorem dX10_text_46 : decode cX10_text 46 = .ok (.areturn, 1) := by decide +kernel
theorem dX10_text_47 : decode cX10_text 47 = .ok (.aload_n 0, 1) := by decide +kernel
theorem dX10_text_48 : decode cX10_text 48 = .ok (.getfield 16, 3) := by decide +kernel
theorem dX10_text_51 : decode cX10_text 51 = .ok (.iconst 4, 1) := by decide +kernel
theorem dX10_text_52 : decode cX10_text 52 = .ok (.if_icmp .ge 7, 3) := by decide +kernel
theorem dX10_text_55 : decode cX10_text 55 = .ok (.iconst 1, 1) := by decide +kernel
theorem dX10_text_56 : decode cX10_text 56 = .ok (.goto 4, 3) := by decide +kernel
theorem dX10_text_59 : decode cX10_text 59 = .ok (.iconst 2, 1) := by decide +kernel
theorem dX10_text_60 : decode cX10_text 60 = .ok (.istore_n 2, 1) := by decide +kernel
theorem dX10_text_61 : decode cX10_text 61 = .ok (.new 34, 3) := by decide +kernel
theorem dX10_text_64 : decode cX10_text 64 = .ok (.dup, 1) := by decide +kernel
theorem dX10_text_65 : decode cX10_text 65 = .ok (.invokespecial 36, 3) := by decide +kernel
theorem dX10_text_68 : decode cX10_text 68 = .ok (.aload_n 0, 1) := by decide +kernel
theorem dX10_text_69 : decode cX10_text 69 = .ok (.getfield 27, 3) := by decide +kernel
theorem dX10_text_72 : decode cX10_text 72 = .ok (.iload_n 2, 1) := by decide +kernel
theorem dX10_text_73 : decode cX10_text 73 = .ok (.invokevirtual 56, 3) := by decide +kernel
theorem dX10_text_76 : decode cX10_text 76 = .ok (.invokevirtual 39, 3) := by decide +kernel
theorem dX10_text_79 : decode cX10_text 79 = .ok (.aload_n 0, 1) := by decide +kernel
theorem dX10_text_80 : decode cX10_text 80 = .ok (.getfield 16, 3) := by decide +kernel
theorem dX10_text_83 : decode cX10_text 83 = .ok (.iconst 2, 1) := by decide +kernel
theorem dX10_text_84 : decode cX10_text 84 = .ok (.if_icmp .ne 8, 3) := by decide +kernel
theorem dX10_text_87 : decode cX10_text 87 = .ok (.ldc 60, 2) := by decide +kernel
theorem dX10_text_89 : decode cX10_text 89 = .ok (.goto 31, 3) := by decide +kernel
theorem dX10_text_92 : decode cX10_text 92 = .ok (.aload_n 0, 1) := by decide +kernel
theorem dX10_text_93 : decode cX10_text 93 = .ok (.getfield 16, 3) := by decide +kernel
theorem dX10_text_96 : decode cX10_text 96 = .ok (.iconst 3, 1) := by decide +kernel
theorem dX10_text_97 : decode cX10_text 97 = .ok (.if_icmp .ne 8, 3) := by decide +kernel
theorem dX10_text_100 : decode cX10_text 100 = .ok (.ldc 62, 2) := by decide +kernel
theorem dX10_text_102 : decode cX10_text 102 = .ok (.goto 18, 3) := by decide +kernel
theorem dX10_text_105 : decode cX10_text 105 = .ok (.aload_n 0, 1) := by decide +kernel
theorem dX10_text_106 : decode cX10_text 106 = .ok (.getfield 16, 3) := by decide +kernel
theorem dX10_text_109 : decode cX10_text 109 = .ok (.iconst 4, 1) := by decide +kernel
theorem dX10_text_110 : decode cX10_text 110 = .ok (.if_icmp .ne 8, 3) := by decide +kernel
theorem dX10_text_113 : decode cX10_text 113 = .ok (.ldc 64, 2) := by decide +kernel
theorem dX10_text_115 : decode cX10_text 115 = .ok (.goto 5, 3) := by decide +kernel
theorem dX10_text_118 : decode cX10_text 118 = .ok (.ldc 66, 2) := by decide +kernel
theorem dX10_text_120 : decode cX10_text 120 = .ok (.invokevirtual 39, 3) := by decide +kernel
theorem dX10_text_123 : decode cX10_text 123 = .ok (.aload_n 0, 1) := by decide +kernel
theorem dX10_text_124 : decode cX10_text 124 = .ok (.getfield 31, 3) := by decide +kernel
theorem dX10_text_127 : decode cX10_text 127 = .ok (.iload_n 2, 1) := by decide +kernel
theorem dX10_text_128 : decode cX10_text 128 = .ok (.iconst 1, 1) := by decide +kernel
theorem dX10_text_129 : decode cX10_text 129 = .ok (.iadd, 1) := by decide +kernel
theorem dX10_text_130 : decode cX10_text 130 = .ok (.invokevirtual 56, 3) := by decide +kernel
theorem dX10_text_133 : decode cX10_text 133 = .ok (.invokevirtual 39, 3) := by decide +kernel
theorem dX10_text_136 : decode cX10_text 136 = .ok (.invokevirtual 46, 3) := by decide +kernel
theorem dX10_text_139 : decode cX10_text 139 = .ok (.astore_n 3, 1) := by decide +kernel
theorem dX10_text_140 : decode cX10_text 140 = .ok (.iload_n 2, 1) := by decide +kernel
theorem dX10_text_141 : decode cX10_text 141 = .ok (.iload_n 1, 1) := by decide +kernel
theorem dX10_text_142 : decode cX10_text 142 = .ok (.if_icmp .ge 30, 3) := by decide +kernel
theorem dX10_text_145 : decode cX10_text 145 = .ok (.new 34, 3) := by decide +kernel
theorem dX10_text_148 : decode cX10_text 148 = .ok (.dup, 1) := by decide +kernel
theorem dX10_text_149 : decode cX10_text 149 = .ok (.invokespecial 36, 3) := by decide +kernel
theorem dX10_text_152 : decode cX10_text 152 = .ok (.ldc 68, 2) := by decide +kernel
theorem dX10_text_154 : decode cX10_text 154 = .ok (.invokevirtual 39, 3) := by decide +kernel
theorem dX10_text_157 : decode cX10_text 157 = .ok (.aload_n 3, 1) := by decide +kernel
theorem dX10_text_158 : decode cX10_text 158 = .ok (.invokevirtual 39, 3) := by decide +kernel
theorem dX10_text_161 : decode cX10_text 161 = .ok (.ldc 70, 2) := by decide +kernel
theorem dX10_text_163 : decode cX10_text 163 = .ok (.invokevirtual 39, 3) := by decide +kernel
theorem dX10_text_166 : decode cX10_text 166 = .ok (.invokevirtual 46, 3) := by decide +kernel
theorem dX10_text_169 : decode cX10_text 169 = .ok (.goto 4, 3) := by decide +kernel
theorem dX10_text_172 : decode cX10_text 172 = .ok (.aload_n 3, 1) := by decide +kernel
theorem dX10_text_173 : decode cX10_text 173 = .ok (.areturn, 1) := by decide +kernel
theorem dX10_value_0 : decode cX10_value 0 = .ok (.aload_n 0, 1) := by decide +kernel
theorem dX10_value_1 : decode cX10_value 1 = .ok (.getfield 16, 3) := by decide +kernel
theorem dX10_value_4 : decode cX10_value 4 = .ok (.iconst 2, 1) := by decide +kernel
theorem dX10_value_5 : decode cX10_value 5 = .ok (.if_icmp .ge 25, 3) := by decide +kernel
theorem dX10_value_8 : decode cX10_value 8 = .ok (.aload_n 0, 1) := by decide +kernel
theorem dX10_value_9 : decode cX10_value 9 = .ok (.getfield 16, 3) := by decide +kernel
theorem dX10_value_12 : decode cX10_value 12 = .ok (.ifCond .ne 11, 3) := by decide +kernel
theorem dX10_value_15 : decode cX10_value 15 = .ok (.aload_n 0, 1) := by decide +kernel
theorem dX10_value_16 : decode cX10_value 16 = .ok (.getfield 20, 3) := by decide +kernel
theorem dX10_value_19 : decode cX10_value 19 = .ok (.i2l, 1) := by decide +kernel
theorem dX10_value_20 : decode cX10_value 20 = .ok (.goto 9, 3) := by decide +kernel
theorem dX10_value_23 : decode cX10_value 23 = .ok (.aload_n 1, 1) := by decide +kernel
theorem dX10_value_24 : decode cX10_value 24 = .ok (.aload_n 0, 1) := by decide +kernel
theorem dX10_value_25 : decode cX10_value 25 = .ok (.getfield 20, 3) := by decide +kernel
theorem dX10_value_28 : decode cX10_value 28 = .ok (.laload, 1) := by decide +kernel
theorem dX10_value_29 : decode cX10_value 29 = .ok (.lreturn, 1) := by decide +kernel
theorem dX10_value_30 : decode cX10_value 30 = .ok (.aload_n 0, 1) := by decide +kernel
theorem dX10_value_31 : decode cX10_value 31 = .ok (.getfield 27, 3) := by decide +kernel
theorem dX10_value_34 : decode cX10_value 34 = .ok (.aload_n 1, 1) := by decide +kernel
theorem dX10_value_35 : decode cX10_value 35 = .ok (.invokevirtual 72, 3) := by decide +kernel
theorem dX10_value_38 : decode cX10_value 38 = .ok (.lstore_n 2, 1) := by decide +kernel
theorem dX10_value_39 : decode cX10_value 39 = .ok (.aload_n 0, 1) := by decide +kernel
theorem dX10_value_40 : decode cX10_value 40 = .ok (.getfield 31, 3) := by decide +kernel
theorem dX10_value_43 : decode cX10_value 43 = .ok (.aload_n 1, 1) := by decide +kernel
theorem dX10_value_44 : decode cX10_value 44 = .ok (.invokevirtual 72, 3) := by decide +kernel
theorem dX10_value_47 : decode cX10_value 47 = .ok (.lstore 4, 2) := by decide +kernel
theorem dX10_value_49 : decode cX10_value 49 = .ok (.aload_n 0, 1) := by decide +kernel
theorem dX10_value_50 : decode cX10_value 50 = .ok (.getfield 16, 3) := by decide +kernel
theorem dX10_value_53 : decode cX10_value 53 = .ok (.iconst 2, 1) := by decide +kernel
theorem dX10_value_54 : decode cX10_value 54 = .ok (.if_icmp .ne 10, 3) := by decide +kernel
theorem dX10_value_57 : decode cX10_value 57 = .ok (.lload_n 2, 1) := by decide +kernel
theorem dX10_value_58 : decode cX10_value 58 = .ok (.lload 4, 2) := by decide +kernel
theorem dX10_value_60 : decode cX10_value 60 = .ok (.ladd, 1) := by decide +kernel
theorem dX10_value_61 : decode cX10_value 61 = .ok (.goto 48, 3) := by decide +kernel
theorem dX10_value_64 : decode cX10_value 64 = .ok (.aload_n 0, 1) := by decide +kernel
theorem dX10_value_65 : decode cX10_value 65 = .ok (.getfield 16, 3) := by decide +kernel
theorem dX10_value_68 : decode cX10_value 68 = .ok (.iconst 3, 1) := by decide +kernel
theorem dX10_value_69 : decode cX10_value 69 = .ok (.if_icmp .ne 10, 3) := by decide +kernel
theorem dX10_value_72 : decode cX10_value 72 = .ok (.lload_n 2, 1) := by decide +kernel
theorem dX10_value_73 : decode cX10_value 73 = .ok (.lload 4, 2) := by decide +kernel
theorem dX10_value_75 : decode cX10_value 75 = .ok (.lsub, 1) := by decide +kernel
theorem dX10_value_76 : decode cX10_value 76 = .ok (.goto 33, 3) := by decide +kernel
theorem dX10_value_79 : decode cX10_value 79 = .ok (.aload_n 0, 1) := by decide +kernel
theorem dX10_value_80 : decode cX10_value 80 = .ok (.getfield 16, 3) := by decide +kernel
theorem dX10_value_83 : decode cX10_value 83 = .ok (.iconst 4, 1) := by decide +kernel
theorem dX10_value_84 : decode cX10_value 84 = .ok (.if_icmp .ne 10, 3) := by decide +kernel
theorem dX10_value_87 : decode cX10_value 87 = .ok (.lload_n 2, 1) := by decide +kernel
theorem dX10_value_88 : decode cX10_value 88 = .ok (.lload 4, 2) := by decide +kernel
theorem dX10_value_90 : decode cX10_value 90 = .ok (.lmul, 1) := by decide +kernel
theorem dX10_value_91 : decode cX10_value 91 = .ok (.goto 18, 3) := by decide +kernel
theorem dX10_value_94 : decode cX10_value 94 = .ok (.lload 4, 2) := by decide +kernel
theorem dX10_value_96 : decode cX10_value 96 = .ok (.lconst 0, 1) := by decide +kernel
theorem dX10_value_97 : decode cX10_value 97 = .ok (.lcmp, 1) := by decide +kernel
theorem dX10_value_98 : decode cX10_value 98 = .ok (.ifCond .ne 7, 3) := by decide +kernel
theorem dX10_value_101 : decode cX10_value 101 = .ok (.lconst 0, 1) := by decide +kernel
theorem dX10_value_102 : decode cX10_value 102 = .ok (.goto 7, 3) := by decide +kernel
theorem dX10_value_105 : decode cX10_value 105 = .ok (.lload_n 2, 1) := by decide +kernel
theorem dX10_value_106 : decode cX10_value 106 = .ok (.lload 4, 2) := by decide +kernel
theorem dX10_value_108 : decode cX10_value 108 = .ok (.ldiv, 1) := by decide +kernel
theorem dX10_value_109 : decode cX10_value 109 = .ok (.lstore 6, 2) := by decide +kernel
theorem dX10_value_111 : decode cX10_value 111 = .ok (.ldc2_w 76, 3) := by decide +kernel
theorem dX10_value_114 : decode cX10_value 114 = .ok (.ldc2_w 78, 3) := by decide +kernel
theorem dX10_value_117 : decode cX10_value 117 = .ok (.lload 6, 2) := by decide +kernel
theorem dX10_value_119 : decode cX10_value 119 = .ok (.invokestatic 80, 3) := by decide +kernel
theorem dX10_value_122 : decode cX10_value 122 = .ok (.invokestatic 86, 3) := by decide +kernel
theorem dX10_value_125 : decode cX10_value 125 = .ok (.lreturn, 1) := by decide +kernel
theorem dX11_init_0 : decode cX11_init 0 = .ok (.aload_n 0, 1) := by decide +kernel
theorem dX11_init_1 : decode cX11_init 1 = .ok (.invokespecial 1, 3) := by decide +kernel
theorem dX11_init_4 : decode cX11_init 4 = .ok (.aload_n 0, 1) := by decide +kernel
theorem dX11_init_5 : decode cX11_init 5 = .ok (.iload_n 1, 1) := by decide +kernel
theorem dX11_init_6 : decode cX11_init 6 = .ok (.putfield 7, 3) := by decide +kernel
theorem dX11_init_9 : decode cX11_init 9 = .ok (.return_, 1) := by decide +kernel
theorem dX11_below_0 : decode cX11_below 0 = .ok (.aload_n 0, 1) := by decide +kernel
theorem dX11_below_1 : decode cX11_below 1 = .ok (.ldc 13, 2) := by decide +kernel
theorem dX11_below_3 : decode cX11_below 3 = .ok (.aload_n 0, 1) := by decide +kernel
theorem dX11_below_4 : decode cX11_below 4 = .ok (.getfield 7, 3) := by decide +kernel
theorem dX11_below_7 : decode cX11_below 7 = .ok (.imul, 1) := by decide +kernel
theorem dX11_below_8 : decode cX11_below 8 = .ok (.sipush 12345, 3) := by decide +kernel
theorem dX11_below_11 : decode cX11_below 11 = .ok (.iadd, 1) := by decide +kernel
theorem dX11_below_12 : decode cX11_below 12 = .ok (.putfield 7, 3) := by decide +kernel
theorem dX11_below_15 : decode cX11_below 15 = .ok (.aload_n 0, 1) := by decide +kernel
theorem dX11_below_16 : decode cX11_below 16 = .ok (.getfield 7, 3) := by decide +kernel
theorem dX11_below_19 : decode cX11_below 19 = .ok (.bipush 16, 2) := by decide +kernel
theorem dX11_below_21 : decode cX11_below 21 = .ok (.iushr, 1) := by decide +kernel
theorem dX11_below_22 : decode cX11_below 22 = .ok (.iload_n 1, 1) := by decide +kernel
theorem dX11_below_23 : decode cX11_below 23 = .ok (.irem, 1) := by decide +kernel
theorem dX11_below_24 : decode cX11_below 24 = .ok (.ireturn, 1) := by decide +kernel
theorem dX12_init_0 : decode cX12_init 0 = .ok (.aload_n 0, 1) := by decide +kernel
theorem dX12_init_1 : decode cX12_init 1 = .ok (.invokespecial 1, 3) := by decide +kernel
theorem dX12_init_4 : decode cX12_init 4 = .ok (.aload_n 0, 1) := by decide +kernel
theorem dX12_init_5 : decode cX12_init 5 = .ok (.iconst 2, 1) := by decide +kernel
theorem dX12_init_6 : decode cX12_init 6 = .ok (.putfield 7, 3) := by decide +kernel
theorem dX12_init_9 : decode cX12_init 9 = .ok (.aload_n 0, 1) := by decide +kernel
theorem dX12_init_10 : decode cX12_init 10 = .ok (.iconst 0, 1) := by decide +kernel
theorem dX12_init_11 : decode cX12_init 11 = .ok (.newarray .int, 2) := by decide +kernel
theorem dX12_init_13 : decode cX12_init 13 = .ok (.putfield 13, 3) := by decide +kernel
theorem dX12_init_16 : decode cX12_init 16 = .ok (.aload_n 0, 1) := by decide +kernel
theorem dX12_init_17 : decode cX12_init 17 = .ok (.iconst 0, 1) := by decide +kernel
theorem dX12_init_18 : decode cX12_init 18 = .ok (.newarray .int, 2) := by decide +kernel
theorem dX12_init_20 : decode cX12_init 20 = .ok (.putfield 17, 3) := by decide +kernel
theorem dX12_init_23 : decode cX12_init 23 = .ok (.aload_n 0, 1) := by decide +kernel
theorem dX12_init_24 : decode cX12_init 24 = .ok (.iconst 0, 1) := by decide +kernel
theorem dX12_init_25 : decode cX12_init 25 = .ok (.anewarray 20, 3) := by decide +kernel
theorem dX12_init_28 : decode cX12_init 28 = .ok (.putfield 22, 3) := by decide +kernel
theorem dX12_init_31 : decode cX12_init 31 = .ok (.aload_n 0, 1) := by decide +kernel
theorem dX12_init_32 : decode cX12_init 32 = .ok (.iconst 0, 1) := by decide +kernel
theorem dX12_init_33 : decode cX12_init 33 = .ok (.newarray .int, 2) := by decide +kernel
theorem dX12_init_35 : decode cX12_init 35 = .ok (.putfield 26, 3) := by decide +kernel
theorem dX12_init_38 : decode cX12_init 38 = .ok (.aload_n 0, 1) := by decide +kernel
theorem dX12_init_39 : decode cX12_init 39 = .ok (.iconst 0, 1) := by decide +kernel
theorem dX12_init_40 : decode cX12_init 40 = .ok (.anewarray 29, 3) := by decide +kernel
theorem dX12_init_43 : decode cX12_init 43 = .ok (.putfield 31, 3) := by decide +kernel
theorem dX12_init_46 : decode cX12_init 46 = .ok (.return_, 1) := by decide +kernel
theorem dX12_copy_0 : decode cX12_copy 0 = .ok (.new 8, 3) := by decide +kernel
theorem dX12_copy_3 : decode cX12_copy 3 = .ok (.dup, 1) := by decide +kernel
theorem dX12_copy_4 : decode cX12_copy 4 = .ok (.invokespecial 34, 3) := by decide +kernel
theorem dX12_copy_7 : decode cX12_copy 7 = .ok (.astore_n 1, 1) := by decide +kernel
theorem dX12_copy_8 : decode cX12_copy 8 = .ok (.aload_n 1, 1) := by decide +kernel
theorem dX12_copy_9 : decode cX12_copy 9 = .ok (.aload_n 0, 1) := by decide +kernel
theorem dX12_copy_10 : decode cX12_copy 10 = .ok (.getfield 7, 3) := by decide +kernel
theorem dX12_copy_13 : decode cX12_copy 13 = .ok (.putfield 7, 3) := by decide +kernel
theorem dX12_copy_16 : decode cX12_copy 16 = .ok (.aload_n 1, 1) := by decide +kernel
theorem dX12_copy_17 : decode cX12_copy 17 = .ok (.aload_n 0, 1) := by decide +kernel
theorem dX12_copy_18 : decode cX12_copy 18 = .ok (.getfield 13, 3) := by decide +kernel
theorem dX12_copy_21 : decode cX12_copy 21 = .ok (.invokevirtual 35, 3) := by decide +kernel
theorem dX12_copy_24 : decode cX12_copy 24 = .ok (.checkcast 36, 3) := by decide +kernel
theorem dX12_copy_27 : decode cX12_copy 27 = .ok (.putfield 13, 3) := by decide +kernel
theorem dX12_copy_30 : decode cX12_copy 30 = .ok (.aload_n 1, 1) := by decide +kernel
theorem dX12_copy_31 : decode cX12_copy 31 = .ok (.aload_n 0, 1) := by decide +kernel
theorem dX12_copy_32 : decode cX12_copy 32 = .ok (.getfield 17, 3) := by decide +kernel
theorem dX12_copy_35 : decode cX12_copy 35 = .ok (.invokevirtual 35, 3) := by decide +kernel
theorem dX12_copy_38 : decode cX12_copy 38 = .ok (.checkcast 36, 3) := by decide +kernel
theorem dX12_copy_41 : decode cX12_copy 41 = .ok (.putfield 17, 3) := by decide +kernel
theorem dX12_copy_44 : decode cX12_copy 44 = .ok (.aload_n 1, 1) := by decide +kernel
theorem dX12_copy_45 : decode cX12_copy 45 = .ok (.aload_n 0, 1) := by decide +kernel
theorem dX12_copy_46 : decode cX12_copy 46 = .ok (.getfield 22, 3) := by decide +kernel
theorem dX12_copy_49 : decode cX12_copy 49 = .ok (.arraylength, 1) := by decide +kernel
theorem dX12_copy_50 : decode cX12_copy 50 = .ok (.anewarray 20, 3) := by decide +kernel
theorem dX12_copy_53 : decode cX12_copy 53 = .ok (.putfield 22, 3) := by decide +kernel
theorem dX12_copy_56 : decode cX12_copy 56 = .ok (.iconst 0, 1) := by decide +kernel
theorem dX12_copy_57 : decode cX12_copy 57 = .ok (.istore_n 2, 1) := by decide +kernel
theorem dX12_copy_58 : decode cX12_copy 58 = .ok (.iload_n 2, 1) := by decide +kernel
theorem dX12_copy_59 : decode cX12_copy 59 = .ok (.aload_n 0, 1) := by decide +kernel
theorem dX12_copy_60 : decode cX12_copy 60 = .ok (.getfield 22, 3) := by decide +kernel
theorem dX12_copy_63 : decode cX12_copy 63 = .ok (.arraylength, 1) := by decide +kernel
theorem dX12_copy_64 : decode cX12_copy 64 = .ok (.if_icmp .ge 21, 3) := by decide +kernel
theorem dX12_copy_67 : decode cX12_copy 67 = .ok (.aload_n 1, 1) := by decide +kernel
theorem dX12_copy_68 : decode cX12_copy 68 = .ok (.getfield 22, 3) := by decide +kernel
theorem dX12_copy_71 : decode cX12_copy 71 = .ok (.iload_n 2, 1) := by decide +kernel
theorem dX12_copy_72 : decode cX12_copy 72 = .ok (.aload_n 0, 1) := by decide +kernel
theorem dX12_copy_73 : decode cX12_copy 73 = .ok (.getfield 22, 3) := by decide +kernel
theorem dX12_copy_76 : decode cX12_copy 76 = .ok (.iload_n 2, 1) := by decide +kernel
theorem dX12_copy_77 : decode cX12_copy 77 = .ok (.aaload, 1) := by decide +kernel
theorem dX12_copy_78 : decode cX12_copy 78 = .ok (.aastore, 1) := by decide +kernel
theorem dX12_copy_79 : decode cX12_copy 79 = .ok (.iinc 2 1, 3) := by decide +kernel
theorem dX12_copy_82 : decode cX12_copy 82 = .ok (.goto (-24), 3) := by decide +kernel
theorem dX12_copy_85 : decode cX12_copy 85 = .ok (.aload_n 1, 1) := by decide +kernel
theorem dX12_copy_86 : decode cX12_copy 86 = .ok (.aload_n 0, 1) := by decide +kernel
theorem dX12_copy_87 : decode cX12_copy 87 = .ok (.getfield 26, 3) := by decide +kernel
theorem dX12_copy_90 : decode cX12_copy 90 = .ok (.putfield 26, 3) := by decide +kernel
theorem dX12_copy_93 : decode cX12_copy 93 = .ok (.aload_n 1, 1) := by decide +kernel
theorem dX12_copy_94 : decode cX12_copy 94 = .ok (.aload_n 0, 1) := by decide +kernel
theorem dX12_copy_95 : decode cX12_copy 95 = .ok (.getfield 40, 3) := by decide +kernel
theorem dX12_copy_98 : decode cX12_copy 98 = .ok (.putfield 40, 3) := by decide +kernel
theorem dX12_copy_101 : decode cX12_copy 101 = .ok (.aload_n 1, 1) := by decide +kernel
theorem dX12_copy_102 : decode cX12_copy 102 = .ok (.aload_n 0, 1) := by decide +kernel
theorem dX12_copy_103 : decode cX12_copy 103 = .ok (.getfield 43, 3) := by decide +kernel
theorem dX12_copy_106 : decode cX12_copy 106 = .ok (.putfield 43, 3) := by decide +kernel
theorem dX12_copy_109 : decode cX12_copy 109 = .ok (.aload_n 1, 1) := by decide +kernel
theorem dX12_copy_110 : decode cX12_copy 110 = .ok (.aload_n 0, 1) := by decide +kernel
theorem dX12_copy_111 : decode cX12_copy 111 = .ok (.getfield 31, 3) := by decide +kernel
theorem dX12_copy_114 : decode cX12_copy 114 = .ok (.putfield 31, 3) := by decide +kernel
theorem dX12_copy_117 : decode cX12_copy 117 = .ok (.aload_n 1, 1) := by decide +kernel
theorem dX12_copy_118 : decode cX12_copy 118 = .ok (.aload_n 0, 1) := by decide +kernel
theorem dX12_copy_119 : decode cX12_copy 119 = .ok (.getfield 46, 3) := by decide +kernel
theorem dX12_copy_122 : decode cX12_copy 122 = .ok (.putfield 46, 3) := by decide +kernel
theorem dX12_copy_125 : decode cX12_copy 125 = .ok (.aload_n 1, 1) := by decide +kernel
theorem dX12_copy_126 : decode cX12_copy 126 = .ok (.aload_n 0, 1) := by decide +kernel
theorem dX12_copy_127 : decode cX12_copy 127 = .ok (.getfield 49, 3) := by decide +kernel
theorem dX12_copy_130 : decode cX12_copy 130 = .ok (.putfield 49, 3) := by decide +kernel
theorem dX12_copy_133 : decode cX12_copy 133 = .ok (.aload_n 1, 1) := by decide +kernel
theorem dX12_copy_134 : decode cX12_copy 134 = .ok (.aload_n 0, 1) := by decide +kernel
theorem dX12_copy_135 : decode cX12_copy 135 = .ok (.getfield 52, 3) := by decide +kernel
theorem dX12_copy_138 : decode cX12_copy 138 = .ok (.putfield 52, 3) := by decide +kernel
theorem dX12_copy_141 : decode cX12_copy 141 = .ok (.aload_n 1, 1) := by decide +kernel
theorem dX12_copy_142 : decode cX12_copy 142 = .ok (.aload_n 0, 1) := by decide +kernel
theorem dX12_copy_143 : decode cX12_copy 143 = .ok (.getfield 55, 3) := by decide +kernel
theorem dX12_copy_146 : decode cX12_copy 146 = .ok (.putfield 55, 3) := by decide +kernel
theorem dX12_copy_149 : decode cX12_copy 149 = .ok (.aload_n 1, 1) := by decide +kernel
theorem dX12_copy_150 : decode cX12_copy 150 = .ok (.areturn, 1) := by decide +kernel
theorem dX12_isOver_0 : decode cX12_isOver 0 = .ok (.aload_n 0, 1) := by decide +kernel
theorem dX12_isOver_1 : decode cX12_isOver 1 = .ok (.getfield 13, 3) := by decide +kernel
theorem dX12_isOver_4 : decode cX12_isOver 4 = .ok (.arraylength, 1) := by decide +kernel
theorem dX12_isOver_5 : decode cX12_isOver 5 = .ok (.ifCond .eq 15, 3) := by decide +kernel
theorem dX12_isOver_8 : decode cX12_isOver 8 = .ok (.aload_n 0, 1) := by decide +kernel
theorem dX12_isOver_9 : decode cX12_isOver 9 = .ok (.getfield 40, 3) := by decide +kernel
theorem dX12_isOver_12 : decode cX12_isOver 12 = .ok (.aload_n 0, 1) := by decide +kernel
theorem dX12_isOver_13 : decode cX12_isOver 13 = .ok (.getfield 26, 3) := by decide +kernel
theorem dX12_isOver_16 : decode cX12_isOver 16 = .ok (.arraylength, 1) := by decide +kernel
theorem dX12_isOver_17 : decode cX12_isOver 17 = .ok (.if_icmp .lt 7, 3) := by decide +kernel
theorem dX12_isOver_20 : decode cX12_isOver 20 = .ok (.iconst 1, 1) := by decide +kernel
theorem dX12_isOver_21 : decode cX12_isOver 21 = .ok (.goto 4, 3) := by decide +kernel
theorem dX12_isOver_24 : decode cX12_isOver 24 = .ok (.iconst 0, 1) := by decide +kernel
theorem dX12_isOver_25 : decode cX12_isOver 25 = .ok (.ireturn, 1) := by decide +kernel
theorem dX12_product_0 : decode cX12_product 0 = .ok (.aload_n 0, 1) := by decide +kernel
theorem dX12_product_1 : decode cX12_product 1 = .ok (.getfield 7, 3) := by decide +kernel
theorem dX12_product_4 : decode cX12_product 4 = .ok (.invokestatic 59, 3) := by decide +kernel
theorem dX12_product_7 : decode cX12_product 7 = .ok (.astore_n 3, 1) := by decide +kernel
theorem dX12_product_8 : decode cX12_product 8 = .ok (.iload_n 1, 1) := by decide +kernel
theorem dX12_product_9 : decode cX12_product 9 = .ok (.istore 4, 2) := by decide +kernel
theorem dX12_product_11 : decode cX12_product 11 = .ok (.iload 4, 2) := by decide +kernel
theorem dX12_product_13 : decode cX12_product 13 = .ok (.iload_n 2, 1) := by decide +kernel
theorem dX12_product_14 : decode cX12_product 14 = .ok (.if_icmp .ge 24, 3) := by decide +kernel
theorem dX12_product_17 : decode cX12_product 17 = .ok (.aload_n 3, 1) := by decide +kernel
theorem dX12_product_18 : decode cX12_product 18 = .ok (.aload_n 0, 1) := by decide +kernel
theorem dX12_product_19 : decode cX12_product 19 = .ok (.getfield 31, 3) := by decide +kernel
theorem dX12_product_22 : decode cX12_product 22 = .ok (.iload 4, 2) := by decide +kernel
theorem dX12_product_24 : decode cX12_product 24 = .ok (.aaload, 1) := by decide +kernel
theorem dX12_product_25 : decode cX12_product 25 = .ok (.getfield 65, 3) := by decide +kernel
theorem dX12_product_28 : decode cX12_product 28 = .ok (.invokestatic 68, 3) := by decide +kernel
theorem dX12_product_31 : decode cX12_product 31 = .ok (.astore_n 3, 1) := by decide +kernel
theorem dX12_product_32 : decode cX12_product 32 = .ok (.iinc 4 1, 3) := by decide +kernel
theorem dX12_product_35 : decode cX12_product 35 = .ok (.goto (-24), 3) := by decide +kernel
theorem dX12_product_38 : decode cX12_product 38 = .ok (.aload_n 3, 1) := by decide +kernel
theorem dX12_product_39 : decode cX12_product 39 = .ok (.areturn, 1) := by decide +kernel
theorem dX12_price_0 : decode cX12_price 0 = .ok (.aload_n 0, 1) := by decide +kernel
theorem dX12_price_1 : decode cX12_price 1 = .ok (.getfield 55, 3) := by decide +kernel
theorem dX12_price_4 : decode cX12_price 4 = .ok (.ifnonnull 11, 3) := by decide +kernel
theorem dX12_price_7 : decode cX12_price 7 = .ok (.aload_n 1, 1) := by decide +kernel
theorem dX12_price_8 : decode cX12_price 8 = .ok (.getfield 72, 3) := by decide +kernel
theorem dX12_price_11 : decode cX12_price 11 = .ok (.i2l, 1) := by decide +kernel
theorem dX12_price_12 : decode cX12_price 12 = .ok (.goto 49, 3) := by decide +kernel
theorem dX12_price_15 : decode cX12_price 15 = .ok (.aload_n 0, 1) := by decide +kernel
theorem dX12_price_16 : decode cX12_price 16 = .ok (.getfield 55, 3) := by decide +kernel
theorem dX12_price_19 : decode cX12_price 19 = .ok (.iconst 4, 1) := by decide +kernel
theorem dX12_price_20 : decode cX12_price 20 = .ok (.newarray .long, 2) := by decide +kernel
theorem dX12_price_22 : decode cX12_price 22 = .ok (.dup, 1) := by decide +kernel
theorem dX12_price_23 : decode cX12_price 23 = .ok (.iconst 0, 1) := by decide +kernel
theorem dX12_price_24 : decode cX12_price 24 = .ok (.aload_n 1, 1) := by decide +kernel
theorem dX12_price_25 : decode cX12_price 25 = .ok (.getfield 72, 3) := by decide +kernel
theorem dX12_price_28 : decode cX12_price 28 = .ok (.i2l, 1) := by decide +kernel
theorem dX12_price_29 : decode cX12_price 29 = .ok (.lastore, 1) := by decide +kernel
theorem dX12_price_30 : decode cX12_price 30 = .ok (.dup, 1) := by decide +kernel
theorem dX12_price_31 : decode cX12_price 31 = .ok (.iconst 1, 1) := by decide +kernel
theorem dX12_price_32 : decode cX12_price 32 = .ok (.aload_n 1, 1) := by decide +kernel
theorem dX12_price_33 : decode cX12_price 33 = .ok (.getfield 65, 3) := by decide +kernel
theorem dX12_price_36 : decode cX12_price 36 = .ok (.invokestatic 75, 3) := by decide +kernel
theorem dX12_price_39 : decode cX12_price 39 = .ok (.i2l, 1) := by decide +kernel
theorem dX12_price_40 : decode cX12_price 40 = .ok (.lastore, 1) := by decide +kernel
theorem dX12_price_41 : decode cX12_price 41 = .ok (.dup, 1) := by decide +kernel
theorem dX12_price_42 : decode cX12_price 42 = .ok (.iconst 2, 1) := by decide +kernel
theorem dX12_price_43 : decode cX12_price 43 = .ok (.aload_n 0, 1) := by decide +kernel
theorem dX12_price_44 : decode cX12_price 44 = .ok (.getfield 31, 3) := by decide +kernel
theorem dX12_price_47 : decode cX12_price 47 = .ok (.arraylength, 1) := by decide +kernel
theorem dX12_price_48 : decode cX12_price 48 = .ok (.i2l, 1) := by decide +kernel
theorem dX12_price_49 : decode cX12_price 49 = .ok (.lastore, 1) := by decide +kernel
theorem dX12_price_50 : decode cX12_price 50 = .ok (.dup, 1) := by decide +kernel
theorem dX12_price_51 : decode cX12_price 51 = .ok (.iconst 3, 1) := by decide +kernel
theorem dX12_price_52 : decode cX12_price 52 = .ok (.aload_n 0, 1) := by decide +kernel
theorem dX12_price_53 : decode cX12_price 53 = .ok (.getfield 46, 3) := by decide +kernel
theorem dX12_price_56 : decode cX12_price 56 = .ok (.i2l, 1) := by decide +kernel
theorem dX12_price_57 : decode cX12_price 57 = .ok (.lastore, 1) := by decide +kernel
theorem dX12_price_58 : decode cX12_price 58 = .ok (.invokevirtual 79, 3) := by decide +kernel
theorem dX12_price_61 : decode cX12_price 61 = .ok (.lstore_n 2, 1) := by decide +kernel
theorem dX12_price_62 : decode cX12_price 62 = .ok (.lconst 0, 1) := by decide +kernel
theorem dX12_price_63 : decode cX12_price 63 = .ok (.ldc2_w 85, 3) := by decide +kernel
theorem dX12_price_66 : decode cX12_price 66 = .ok (.lload_n 2, 1) := by decide +kernel
theorem dX12_price_67 : decode cX12_price 67 = .ok (.invokestatic 87, 3) := by decide +kernel
theorem dX12_price_70 : decode cX12_price 70 = .ok (.invokestatic 93, 3) := by decide +kernel
theorem dX12_price_73 : decode cX12_price 73 = .ok (.l2i, 1) := by decide +kernel
theorem dX12_price_74 : decode cX12_price 74 = .ok (.ireturn, 1) := by decide +kernel
theorem dX12_pay_0 : decode cX12_pay 0 = .ok (.aload_n 0, 1) := by decide +kernel
theorem dX12_pay_1 : decode cX12_pay 1 = .ok (.getfield 13, 3) := by decide +kernel
theorem dX12_pay_4 : decode cX12_pay 4 = .ok (.iload_n 1, 1) := by decide +kernel
theorem dX12_pay_5 : decode cX12_pay 5 = .ok (.ldc 96, 2) := by decide +kernel
theorem dX12_pay_7 : decode cX12_pay 7 = .ok (.aload_n 0, 1) := by decide +kernel
theorem dX12_pay_8 : decode cX12_pay 8 = .ok (.getfield 13, 3) := by decide +kernel
theorem dX12_pay_11 : decode cX12_pay 11 = .ok (.iload_n 1, 1) := by decide +kernel
theorem dX12_pay_12 : decode cX12_pay 12 = .ok (.iaload, 1) := by decide +kernel
theorem dX12_pay_13 : decode cX12_pay 13 = .ok (.iload_n 2, 1) := by decide +kernel
theorem dX12_pay_14 : decode cX12_pay 14 = .ok (.iadd, 1) := by decide +kernel
theorem dX12_pay_15 : decode cX12_pay 15 = .ok (.invokestatic 97, 3) := by decide +kernel
theorem dX12_pay_18 : decode cX12_pay 18 = .ok (.iastore, 1) := by decide +kernel
theorem dX12_pay_19 : decode cX12_pay 19 = .ok (.return_, 1) := by decide +kernel
theorem dX12_ends_0 : decode cX12_ends 0 = .ok (.aload_n 0, 1) := by decide +kernel
theorem dX12_ends_1 : decode cX12_ends 1 = .ok (.dup, 1) := by decide +kernel
theorem dX12_ends_2 : decode cX12_ends 2 = .ok (.getfield 40, 3) := by decide +kernel
theorem dX12_ends_5 : decode cX12_ends 5 = .ok (.iconst 1, 1) := by decide +kernel
theorem dX12_ends_6 : decode cX12_ends 6 = .ok (.iadd, 1) := by decide +kernel
theorem dX12_ends_7 : decode cX12_ends 7 = .ok (.putfield 40, 3) := by decide +kernel
theorem dX12_ends_10 : decode cX12_ends 10 = .ok (.aload_n 0, 1) := by decide +kernel
theorem dX12_ends_11 : decode cX12_ends 11 = .ok (.iconst 0, 1) := by decide +kernel
theorem dX12_ends_12 : decode cX12_ends 12 = .ok (.anewarray 29, 3) := by decide +kernel
theorem dX12_ends_15 : decode cX12_ends 15 = .ok (.putfield 31, 3) := by decide +kernel
theorem dX12_ends_18 : decode cX12_ends 18 = .ok (.aload_n 0, 1) := by decide +kernel
theorem dX12_ends_19 : decode cX12_ends 19 = .ok (.iconst 0, 1) := by decide +kernel
theorem dX12_ends_20 : decode cX12_ends 20 = .ok (.putfield 46, 3) := by decide +kernel
theorem dX12_ends_23 : decode cX12_ends 23 = .ok (.aload_n 0, 1) := by decide +kernel
theorem dX12_ends_24 : decode cX12_ends 24 = .ok (.iconst 0, 1) := by decide +kernel
theorem dX12_ends_25 : decode cX12_ends 25 = .ok (.putfield 49, 3) := by decide +kernel
theorem dX12_ends_28 : decode cX12_ends 28 = .ok (.return_, 1) := by decide +kernel
theorem dX12_finish_0 : decode cX12_finish 0 = .ok (.aload_n 0, 1) := by decide +kernel
theorem dX12_finish_1 : decode cX12_finish 1 = .ok (.iconst 0, 1) := by decide +kernel
theorem dX12_finish_2 : decode cX12_finish 2 = .ok (.putfield 49, 3) := by decide +kernel
theorem dX12_finish_5 : decode cX12_finish 5 = .ok (.aload_n 0, 1) := by decide +kernel
theorem dX12_finish_6 : decode cX12_finish 6 = .ok (.getfield 31, 3) := by decide +kernel
theorem dX12_finish_9 : decode cX12_finish 9 = .ok (.arraylength, 1) := by decide +kernel
theorem dX12_finish_10 : decode cX12_finish 10 = .ok (.ifCond .le 23, 3) := by decide +kernel
theorem dX12_finish_13 : decode cX12_finish 13 = .ok (.aload_n 0, 1) := by decide +kernel
theorem dX12_finish_14 : decode cX12_finish 14 = .ok (.iconst 0, 1) := by decide +kernel
theorem dX12_finish_15 : decode cX12_finish 15 = .ok (.aload_n 0, 1) := by decide +kernel
theorem dX12_finish_16 : decode cX12_finish 16 = .ok (.getfield 31, 3) := by decide +kernel
theorem dX12_finish_19 : decode cX12_finish 19 = .ok (.arraylength, 1) := by decide +kernel
theorem dX12_finish_20 : decode cX12_finish 20 = .ok (.invokevirtual 100, 3) := by decide +kernel
theorem dX12_finish_23 : decode cX12_finish 23 = .ok (.invokestatic 104, 3) := by decide +kernel
theorem dX12_finish_26 : decode cX12_finish 26 = .ok (.ifCond .eq 7, 3) := by decide +kernel
theorem dX12_finish_29 : decode cX12_finish 29 = .ok (.iconst 1, 1) := by decide +kernel
theorem dX12_finish_30 : decode cX12_finish 30 = .ok (.goto 4, 3) := by decide +kernel
theorem dX12_finish_33 : decode cX12_finish 33 = .ok (.iconst 0, 1) := by decide +kernel
theorem dX12_finish_34 : decode cX12_finish 34 = .ok (.istore_n 1, 1) := by decide +kernel
theorem dX12_finish_35 : decode cX12_finish 35 = .ok (.iload_n 1, 1) := by decide +kernel
theorem dX12_finish_36 : decode cX12_finish 36 = .ok (.ifCond .eq 42, 3) := by decide +kernel
theorem dX12_finish_39 : decode cX12_finish 39 = .ok (.aload_n 0, 1) := by decide +kernel
theorem dX12_finish_40 : decode cX12_finish 40 = .ok (.aload_n 0, 1) := by decide +kernel
theorem dX12_finish_41 : decode cX12_finish 41 = .ok (.getfield 43, 3) := by decide +kernel
theorem dX12_finish_44 : decode cX12_finish 44 = .ok (.aload_n 0, 1) := by decide +kernel
theorem dX12_finish_45 : decode cX12_finish 45 = .ok (.getfield 26, 3) := by decide +kernel
theorem dX12_finish_48 : decode cX12_finish 48 = .ok (.aload_n 0, 1) := by decide +kernel
theorem dX12_finish_49 : decode cX12_finish 49 = .ok (.getfield 40, 3) := by decide +kernel
theorem dX12_finish_52 : decode cX12_finish 52 = .ok (.iaload, 1) := by decide +kernel
theorem dX12_finish_53 : decode cX12_finish 53 = .ok (.aload_n 0, 1) := by decide +kernel
theorem dX12_finish_54 : decode cX12_finish 54 = .ok (.getfield 46, 3) := by decide +kernel
theorem dX12_finish_57 : decode cX12_finish 57 = .ok (.iadd, 1) := by decide +kernel
theorem dX12_finish_58 : decode cX12_finish 58 = .ok (.invokevirtual 108, 3) := by decide +kernel
theorem dX12_finish_61 : decode cX12_finish 61 = .ok (.aload_n 0, 1) := by decide +kernel
theorem dX12_finish_62 : decode cX12_finish 62 = .ok (.getfield 17, 3) := by decide +kernel
theorem dX12_finish_65 : decode cX12_finish 65 = .ok (.aload_n 0, 1) := by decide +kernel
theorem dX12_finish_66 : decode cX12_finish 66 = .ok (.getfield 43, 3) := by decide +kernel
theorem dX12_finish_69 : decode cX12_finish 69 = .ok (.dup2, 1) := by decide +kernel
theorem dX12_finish_70 : decode cX12_finish 70 = .ok (.iaload, 1) := by decide +kernel
theorem dX12_finish_71 : decode cX12_finish 71 = .ok (.iconst 1, 1) := by decide +kernel
theorem dX12_finish_72 : decode cX12_finish 72 = .ok (.iadd, 1) := by decide +kernel
theorem dX12_finish_73 : decode cX12_finish 73 = .ok (.iastore, 1) := by decide +kernel
theorem dX12_finish_74 : decode cX12_finish 74 = .ok (.aload_n 0, 1) := by decide +kernel
theorem dX12_finish_75 : decode cX12_finish 75 = .ok (.invokevirtual 112, 3) := by decide +kernel
theorem dX12_finish_78 : decode cX12_finish 78 = .ok (.aload_n 0, 1) := by decide +kernel
theorem dX12_finish_79 : decode cX12_finish 79 = .ok (.aload_n 0, 1) := by decide +kernel
theorem dX12_finish_80 : decode cX12_finish 80 = .ok (.getfield 43, 3) := by decide +kernel
theorem dX12_finish_83 : decode cX12_finish 83 = .ok (.iconst 1, 1) := by decide +kernel
theorem dX12_finish_84 : decode cX12_finish 84 = .ok (.iadd, 1) := by decide +kernel
theorem dX12_finish_85 : decode cX12_finish 85 = .ok (.aload_n 0, 1) := by decide +kernel
theorem dX12_finish_86 : decode cX12_finish 86 = .ok (.getfield 13, 3) := by decide +kernel
theorem dX12_finish_89 : decode cX12_finish 89 = .ok (.arraylength, 1) := by decide +kernel
theorem dX12_finish_90 : decode cX12_finish 90 = .ok (.irem, 1) := by decide +kernel
theorem dX12_finish_91 : decode cX12_finish 91 = .ok (.putfield 43, 3) := by decide +kernel
theorem dX12_finish_94 : decode cX12_finish 94 = .ok (.iload_n 1, 1) := by decide +kernel
theorem dX12_finish_95 : decode cX12_finish 95 = .ok (.ifCond .eq 7, 3) := by decide +kernel
theorem dX12_finish_98 : decode cX12_finish 98 = .ok (.iconst 1, 1) := by decide +kernel
theorem dX12_finish_99 : decode cX12_finish 99 = .ok (.goto 4, 3) := by decide +kernel
theorem dX12_finish_102 : decode cX12_finish 102 = .ok (.iconst 0, 1) := by decide +kernel
theorem dX12_finish_103 : decode cX12_finish 103 = .ok (.ireturn, 1) := by decide +kernel
theorem dX12_play_0 : decode cX12_play 0 = .ok (.aload_n 0, 1) := by decide +kernel
theorem dX12_play_1 : decode cX12_play 1 = .ok (.getfield 22, 3) := by decide +kernel
theorem dX12_play_4 : decode cX12_play 4 = .ok (.aload_n 0, 1) := by decide +kernel
theorem dX12_play_5 : decode cX12_play 5 = .ok (.getfield 43, 3) := by decide +kernel
theorem dX12_play_8 : decode cX12_play 8 = .ok (.aaload, 1) := by decide +kernel
theorem dX12_play_9 : decode cX12_play 9 = .ok (.iload_n 1, 1) := by decide +kernel
theorem dX12_play_10 : decode cX12_play 10 = .ok (.aaload, 1) := by decide +kernel
theorem dX12_play_11 : decode cX12_play 11 = .ok (.astore_n 2, 1) := by decide +kernel
theorem dX12_play_12 : decode cX12_play 12 = .ok (.aload_n 0, 1) := by decide +kernel
theorem dX12_play_13 : decode cX12_play 13 = .ok (.aload_n 2, 1) := by decide +kernel
theorem dX12_play_14 : decode cX12_play 14 = .ok (.invokevirtual 115, 3) := by decide +kernel
theorem dX12_play_17 : decode cX12_play 17 = .ok (.istore_n 3, 1) := by decide +kernel
theorem dX12_play_18 : decode cX12_play 18 = .ok (.aload_n 0, 1) := by decide +kernel
theorem dX12_play_19 : decode cX12_play 19 = .ok (.getfield 31, 3) := by decide +kernel
theorem dX12_play_22 : decode cX12_play 22 = .ok (.arraylength, 1) := by decide +kernel
theorem dX12_play_23 : decode cX12_play 23 = .ok (.bipush 20, 2) := by decide +kernel
theorem dX12_play_25 : decode cX12_play 25 = .ok (.if_icmp .eq 16, 3) := by decide +kernel
theorem dX12_play_28 : decode cX12_play 28 = .ok (.aload_n 0, 1) := by decide +kernel
theorem dX12_play_29 : decode cX12_play 29 = .ok (.getfield 13, 3) := by decide +kernel
theorem dX12_play_32 : decode cX12_play 32 = .ok (.aload_n 0, 1) := by decide +kernel
theorem dX12_play_33 : decode cX12_play 33 = .ok (.getfield 43, 3) := by decide +kernel
theorem dX12_play_36 : decode cX12_play 36 = .ok (.iaload, 1) := by decide +kernel
theorem dX12_play_37 : decode cX12_play 37 = .ok (.iload_n 3, 1) := by decide +kernel
theorem dX12_play_38 : decode cX12_play 38 = .ok (.if_icmp .ge 5, 3) := by decide +kernel
theorem dX12_play_41 : decode cX12_play 41 = .ok (.iconst (-1), 1) := by decide +kernel
theorem dX12_play_42 : decode cX12_play 42 = .ok (.ireturn, 1) := by decide +kernel
theorem dX12_play_43 : decode cX12_play 43 = .ok (.aload_n 0, 1) := by decide +kernel
theorem dX12_play_44 : decode cX12_play 44 = .ok (.getfield 13, 3) := by decide +kernel
theorem dX12_play_47 : decode cX12_play 47 = .ok (.aload_n 0, 1) := by decide +kernel
theorem dX12_play_48 : decode cX12_play 48 = .ok (.getfield 43, 3) := by decide +kernel
theorem dX12_play_51 : decode cX12_play 51 = .ok (.dup2, 1) := by decide +kernel
theorem dX12_play_52 : decode cX12_play 52 = .ok (.iaload, 1) := by decide +kernel
theorem dX12_play_53 : decode cX12_play 53 = .ok (.iload_n 3, 1) := by decide +kernel
theorem dX12_play_54 : decode cX12_play 54 = .ok (.isub, 1) := by decide +kernel
theorem dX12_play_55 : decode cX12_play 55 = .ok (.iastore, 1) := by decide +kernel
theorem dX12_play_56 : decode cX12_play 56 = .ok (.aload_n 0, 1) := by decide +kernel
theorem dX12_play_57 : decode cX12_play 57 = .ok (.dup, 1) := by decide +kernel
theorem dX12_play_58 : decode cX12_play 58 = .ok (.getfield 46, 3) := by decide +kernel
theorem dX12_play_61 : decode cX12_play 61 = .ok (.iload_n 3, 1) := by decide +kernel
theorem dX12_play_62 : decode cX12_play 62 = .ok (.iadd, 1) := by decide +kernel
theorem dX12_play_63 : decode cX12_play 63 = .ok (.putfield 46, 3) := by decide +kernel
theorem dX12_play_66 : decode cX12_play 66 = .ok (.aload_n 0, 1) := by decide +kernel
theorem dX12_play_67 : decode cX12_play 67 = .ok (.aload_n 0, 1) := by decide +kernel
theorem dX12_play_68 : decode cX12_play 68 = .ok (.getfield 31, 3) := by decide +kernel
theorem dX12_play_71 : decode cX12_play 71 = .ok (.new 29, 3) := by decide +kernel
theorem dX12_play_74 : decode cX12_play 74 = .ok (.dup, 1) := by decide +kernel
theorem dX12_play_75 : decode cX12_play 75 = .ok (.aload_n 0, 1) := by decide +kernel
theorem dX12_play_76 : decode cX12_play 76 = .ok (.getfield 43, 3) := by decide +kernel
theorem dX12_play_79 : decode cX12_play 79 = .ok (.aload_n 2, 1) := by decide +kernel
theorem dX12_play_80 : decode cX12_play 80 = .ok (.getfield 65, 3) := by decide +kernel
theorem dX12_play_83 : decode cX12_play 83 = .ok (.iload_n 3, 1) := by decide +kernel
theorem dX12_play_84 : decode cX12_play 84 = .ok (.invokespecial 119, 3) := by decide +kernel
theorem dX12_play_87 : decode cX12_play 87 = .ok (.invokestatic 122, 3) := by decide +kernel
theorem dX12_play_90 : decode cX12_play 90 = .ok (.putfield 31, 3) := by decide +kernel
theorem dX12_play_93 : decode cX12_play 93 = .ok (.aload_n 0, 1) := by decide +kernel
theorem dX12_play_94 : decode cX12_play 94 = .ok (.getfield 22, 3) := by decide +kernel
theorem dX12_play_97 : decode cX12_play 97 = .ok (.aload_n 0, 1) := by decide +kernel
theorem dX12_play_98 : decode cX12_play 98 = .ok (.getfield 43, 3) := by decide +kernel
theorem dX12_play_101 : decode cX12_play 101 = .ok (.aload_n 0, 1) := by decide +kernel
theorem dX12_play_102 : decode cX12_play 102 = .ok (.getfield 22, 3) := by decide +kernel
theorem dX12_play_105 : decode cX12_play 105 = .ok (.aload_n 0, 1) := by decide +kernel
theorem dX12_play_106 : decode cX12_play 106 = .ok (.getfield 43, 3) := by decide +kernel
theorem dX12_play_109 : decode cX12_play 109 = .ok (.aaload, 1) := by decide +kernel
theorem dX12_play_110 : decode cX12_play 110 = .ok (.iload_n 1, 1) := by decide +kernel
theorem dX12_play_111 : decode cX12_play 111 = .ok (.invokestatic 126, 3) := by decide +kernel
theorem dX12_play_114 : decode cX12_play 114 = .ok (.aastore, 1) := by decide +kernel
theorem dX12_play_115 : decode cX12_play 115 = .ok (.aload_n 0, 1) := by decide +kernel
theorem dX12_play_116 : decode cX12_play 116 = .ok (.invokevirtual 130, 3) := by decide +kernel
theorem dX12_play_119 : decode cX12_play 119 = .ok (.ireturn, 1) := by decide +kernel
theorem dX12_cancel_0 : decode cX12_cancel 0 = .ok (.aload_n 0, 1) := by decide +kernel
theorem dX12_cancel_1 : decode cX12_cancel 1 = .ok (.getfield 22, 3) := by decide +kernel
theorem dX12_cancel_4 : decode cX12_cancel 4 = .ok (.aload_n 0, 1) := by decide +kernel
theorem dX12_cancel_5 : decode cX12_cancel 5 = .ok (.getfield 43, 3) := by decide +kernel
theorem dX12_cancel_8 : decode cX12_cancel 8 = .ok (.aaload, 1) := by decide +kernel
theorem dX12_cancel_9 : decode cX12_cancel 9 = .ok (.iload_n 1, 1) := by decide +kernel
theorem dX12_cancel_10 : decode cX12_cancel 10 = .ok (.aaload, 1) := by decide +kernel
theorem dX12_cancel_11 : decode cX12_cancel 11 = .ok (.astore_n 3, 1) := by decide +kernel
theorem dX12_cancel_12 : decode cX12_cancel 12 = .ok (.aload_n 0, 1) := by decide +kernel
theorem dX12_cancel_13 : decode cX12_cancel 13 = .ok (.getfield 31, 3) := by decide +kernel
theorem dX12_cancel_16 : decode cX12_cancel 16 = .ok (.iload_n 2, 1) := by decide +kernel
theorem dX12_cancel_17 : decode cX12_cancel 17 = .ok (.aaload, 1) := by decide +kernel
theorem dX12_cancel_18 : decode cX12_cancel 18 = .ok (.astore 4, 2) := by decide +kernel
theorem dX12_cancel_20 : decode cX12_cancel 20 = .ok (.aload_n 0, 1) := by decide +kernel
theorem dX12_cancel_21 : decode cX12_cancel 21 = .ok (.aload_n 3, 1) := by decide +kernel
theorem dX12_cancel_22 : decode cX12_cancel 22 = .ok (.invokevirtual 115, 3) := by decide +kernel
theorem dX12_cancel_25 : decode cX12_cancel 25 = .ok (.istore 5, 2) := by decide +kernel
theorem dX12_cancel_27 : decode cX12_cancel 27 = .ok (.aload_n 3, 1) := by decide +kernel
theorem dX12_cancel_28 : decode cX12_cancel 28 = .ok (.getfield 65, 3) := by decide +kernel
theorem dX12_cancel_31 : decode cX12_cancel 31 = .ok (.aload 4, 2) := by decide +kernel
theorem dX12_cancel_33 : decode cX12_cancel 33 = .ok (.getfield 65, 3) := by decide +kernel
theorem dX12_cancel_36 : decode cX12_cancel 36 = .ok (.invokestatic 68, 3) := by decide +kernel
theorem dX12_cancel_39 : decode cX12_cancel 39 = .ok (.invokestatic 104, 3) := by decide +kernel
theorem dX12_cancel_42 : decode cX12_cancel 42 = .ok (.ifCond .eq 27, 3) := by decide +kernel
theorem dX12_cancel_45 : decode cX12_cancel 45 = .ok (.iload 5, 2) := by decide +kernel
theorem dX12_cancel_47 : decode cX12_cancel 47 = .ok (.aload 4, 2) := by decide +kernel
theorem dX12_cancel_49 : decode cX12_cancel 49 = .ok (.getfield 72, 3) := by decide +kernel
theorem dX12_cancel_52 : decode cX12_cancel 52 = .ok (.if_icmp .lt 17, 3) := by decide +kernel
theorem dX12_cancel_55 : decode cX12_cancel 55 = .ok (.aload_n 0, 1) := by decide +kernel
theorem dX12_cancel_56 : decode cX12_cancel 56 = .ok (.getfield 13, 3) := by decide +kernel
theorem dX12_cancel_59 : decode cX12_cancel 59 = .ok (.aload_n 0, 1) := by decide +kernel
theorem dX12_cancel_60 : decode cX12_cancel 60 = .ok (.getfield 43, 3) := by decide +kernel
theorem dX12_cancel_63 : decode cX12_cancel 63 = .ok (.iaload, 1) := by decide +kernel
theorem dX12_cancel_64 : decode cX12_cancel 64 = .ok (.iload 5, 2) := by decide +kernel
theorem dX12_cancel_66 : decode cX12_cancel 66 = .ok (.if_icmp .ge 5, 3) := by decide +kernel
theorem dX12_cancel_69 : decode cX12_cancel 69 = .ok (.iconst (-1), 1) := by decide +kernel
theorem dX12_cancel_70 : decode cX12_cancel 70 = .ok (.ireturn, 1) := by decide +kernel
theorem dX12_cancel_71 : decode cX12_cancel 71 = .ok (.aload_n 0, 1) := by decide +kernel
theorem dX12_cancel_72 : decode cX12_cancel 72 = .ok (.getfield 13, 3) := by decide +kernel
theorem dX12_cancel_75 : decode cX12_cancel 75 = .ok (.aload_n 0, 1) := by decide +kernel
theorem dX12_cancel_76 : decode cX12_cancel 76 = .ok (.getfield 43, 3) := by decide +kernel
theorem dX12_cancel_79 : decode cX12_cancel 79 = .ok (.dup2, 1) := by decide +kernel
theorem dX12_cancel_80 : decode cX12_cancel 80 = .ok (.iaload, 1) := by decide +kernel
theorem dX12_cancel_81 : decode cX12_cancel 81 = .ok (.iload 5, 2) := by decide +kernel
theorem dX12_cancel_83 : decode cX12_cancel 83 = .ok (.isub, 1) := by decide +kernel
theorem dX12_cancel_84 : decode cX12_cancel 84 = .ok (.iastore, 1) := by decide +kernel
theorem dX12_cancel_85 : decode cX12_cancel 85 = .ok (.aload_n 0, 1) := by decide +kernel
theorem dX12_cancel_86 : decode cX12_cancel 86 = .ok (.dup, 1) := by decide +kernel
theorem dX12_cancel_87 : decode cX12_cancel 87 = .ok (.getfield 46, 3) := by decide +kernel
theorem dX12_cancel_90 : decode cX12_cancel 90 = .ok (.iload 5, 2) := by decide +kernel
theorem dX12_cancel_92 : decode cX12_cancel 92 = .ok (.aload 4, 2) := by decide +kernel
theorem dX12_cancel_94 : decode cX12_cancel 94 = .ok (.getfield 72, 3) := by decide +kernel
theorem dX12_cancel_97 : decode cX12_cancel 97 = .ok (.isub, 1) := by decide +kernel
theorem dX12_cancel_98 : decode cX12_cancel 98 = .ok (.iadd, 1) := by decide +kernel
theorem dX12_cancel_99 : decode cX12_cancel 99 = .ok (.putfield 46, 3) := by decide +kernel
theorem dX12_cancel_102 : decode cX12_cancel 102 = .ok (.aload_n 0, 1) := by decide +kernel
theorem dX12_cancel_103 : decode cX12_cancel 103 = .ok (.aload 4, 2) := by decide +kernel
theorem dX12_cancel_105 : decode cX12_cancel 105 = .ok (.getfield 134, 3) := by decide +kernel
theorem dX12_cancel_108 : decode cX12_cancel 108 = .ok (.aload 4, 2) := by decide +kernel
theorem dX12_cancel_110 : decode cX12_cancel 110 = .ok (.getfield 72, 3) := by decide +kernel
theorem dX12_cancel_113 : decode cX12_cancel 113 = .ok (.invokevirtual 108, 3) := by decide +kernel
theorem dX12_cancel_116 : decode cX12_cancel 116 = .ok (.aload_n 0, 1) := by decide +kernel
theorem dX12_cancel_117 : decode cX12_cancel 117 = .ok (.aload_n 0, 1) := by decide +kernel
theorem dX12_cancel_118 : decode cX12_cancel 118 = .ok (.getfield 31, 3) := by decide +kernel
theorem dX12_cancel_121 : decode cX12_cancel 121 = .ok (.iload_n 2, 1) := by decide +kernel
theorem dX12_cancel_122 : decode cX12_cancel 122 = .ok (.invokestatic 126, 3) := by decide +kernel
theorem dX12_cancel_125 : decode cX12_cancel 125 = .ok (.putfield 31, 3) := by decide +kernel
theorem dX12_cancel_128 : decode cX12_cancel 128 = .ok (.aload_n 0, 1) := by decide +kernel
theorem dX12_cancel_129 : decode cX12_cancel 129 = .ok (.getfield 22, 3) := by decide +kernel
theorem dX12_cancel_132 : decode cX12_cancel 132 = .ok (.aload_n 0, 1) := by decide +kernel
theorem dX12_cancel_133 : decode cX12_cancel 133 = .ok (.getfield 43, 3) := by decide +kernel
theorem dX12_cancel_136 : decode cX12_cancel 136 = .ok (.aload_n 0, 1) := by decide +kernel
theorem dX12_cancel_137 : decode cX12_cancel 137 = .ok (.getfield 22, 3) := by decide +kernel
theorem dX12_cancel_140 : decode cX12_cancel 140 = .ok (.aload_n 0, 1) := by decide +kernel
theorem dX12_cancel_141 : decode cX12_cancel 141 = .ok (.getfield 43, 3) := by decide +kernel
theorem dX12_cancel_144 : decode cX12_cancel 144 = .ok (.aaload, 1) := by decide +kernel
theorem dX12_cancel_145 : decode cX12_cancel 145 = .ok (.iload_n 1, 1) := by decide +kernel
theorem dX12_cancel_146 : decode cX12_cancel 146 = .ok (.invokestatic 126, 3) := by decide +kernel
theorem dX12_cancel_149 : decode cX12_cancel 149 = .ok (.aastore, 1) := by decide +kernel
theorem dX12_cancel_150 : decode cX12_cancel 150 = .ok (.aload_n 0, 1) := by decide +kernel
theorem dX12_cancel_151 : decode cX12_cancel 151 = .ok (.invokevirtual 130, 3) := by decide +kernel
theorem dX12_cancel_154 : decode cX12_cancel 154 = .ok (.ireturn, 1) := by decide +kernel
theorem dX12_pass_0 : decode cX12_pass 0 = .ok (.aload_n 0, 1) := by decide +kernel
theorem dX12_pass_1 : decode cX12_pass 1 = .ok (.dup, 1) := by decide +kernel
theorem dX12_pass_2 : decode cX12_pass 2 = .ok (.getfield 49, 3) := by decide +kernel
theorem dX12_pass_5 : decode cX12_pass 5 = .ok (.iconst 1, 1) := by decide +kernel
theorem dX12_pass_6 : decode cX12_pass 6 = .ok (.iadd, 1) := by decide +kernel
theorem dX12_pass_7 : decode cX12_pass 7 = .ok (.putfield 49, 3) := by decide +kernel
theorem dX12_pass_10 : decode cX12_pass 10 = .ok (.aload_n 0, 1) := by decide +kernel
theorem dX12_pass_11 : decode cX12_pass 11 = .ok (.getfield 49, 3) := by decide +kernel
theorem dX12_pass_14 : decode cX12_pass 14 = .ok (.aload_n 0, 1) := by decide +kernel
theorem dX12_pass_15 : decode cX12_pass 15 = .ok (.getfield 13, 3) := by decide +kernel
theorem dX12_pass_18 : decode cX12_pass 18 = .ok (.arraylength, 1) := by decide +kernel
theorem dX12_pass_19 : decode cX12_pass 19 = .ok (.if_icmp .ne 7, 3) := by decide +kernel
theorem dX12_pass_22 : decode cX12_pass 22 = .ok (.iconst 1, 1) := by decide +kernel
theorem dX12_pass_23 : decode cX12_pass 23 = .ok (.goto 4, 3) := by decide +kernel
theorem dX12_pass_26 : decode cX12_pass 26 = .ok (.iconst 0, 1) := by decide +kernel
theorem dX12_pass_27 : decode cX12_pass 27 = .ok (.istore_n 1, 1) := by decide +kernel
theorem dX12_pass_28 : decode cX12_pass 28 = .ok (.iload_n 1, 1) := by decide +kernel
theorem dX12_pass_29 : decode cX12_pass 29 = .ok (.ifCond .eq 20, 3) := by decide +kernel
theorem dX12_pass_32 : decode cX12_pass 32 = .ok (.aload_n 0, 1) := by decide +kernel
theorem dX12_pass_33 : decode cX12_pass 33 = .ok (.dup, 1) := by decide +kernel
theorem dX12_pass_34 : decode cX12_pass 34 = .ok (.getfield 52, 3) := by decide +kernel
theorem dX12_pass_37 : decode cX12_pass 37 = .ok (.aload_n 0, 1) := by decide +kernel
theorem dX12_pass_38 : decode cX12_pass 38 = .ok (.getfield 46, 3) := by decide +kernel
theorem dX12_pass_41 : decode cX12_pass 41 = .ok (.iadd, 1) := by decide +kernel
theorem dX12_pass_42 : decode cX12_pass 42 = .ok (.putfield 52, 3) := by decide +kernel
theorem dX12_pass_45 : decode cX12_pass 45 = .ok (.aload_n 0, 1) := by decide +kernel
theorem dX12_pass_46 : decode cX12_pass 46 = .ok (.invokevirtual 112, 3) := by decide +kernel
theorem dX12_pass_49 : decode cX12_pass 49 = .ok (.aload_n 0, 1) := by decide +kernel
theorem dX12_pass_50 : decode cX12_pass 50 = .ok (.aload_n 0, 1) := by decide +kernel
theorem dX12_pass_51 : decode cX12_pass 51 = .ok (.getfield 43, 3) := by decide +kernel
theorem dX12_pass_54 : decode cX12_pass 54 = .ok (.iconst 1, 1) := by decide +kernel
theorem dX12_pass_55 : decode cX12_pass 55 = .ok (.iadd, 1) := by decide +kernel
theorem dX12_pass_56 : decode cX12_pass 56 = .ok (.aload_n 0, 1) := by decide +kernel
theorem dX12_pass_57 : decode cX12_pass 57 = .ok (.getfield 13, 3) := by decide +kernel
theorem dX12_pass_60 : decode cX12_pass 60 = .ok (.arraylength, 1) := by decide +kernel
theorem dX12_pass_61 : decode cX12_pass 61 = .ok (.irem, 1) := by decide +kernel
theorem dX12_pass_62 : decode cX12_pass 62 = .ok (.putfield 43, 3) := by decide +kernel
theorem dX12_pass_65 : decode cX12_pass 65 = .ok (.iload_n 1, 1) := by decide +kernel
theorem dX12_pass_66 : decode cX12_pass 66 = .ok (.ifCond .eq 7, 3) := by decide +kernel
theorem dX12_pass_69 : decode cX12_pass 69 = .ok (.iconst 1, 1) := by decide +kernel
theorem dX12_pass_70 : decode cX12_pass 70 = .ok (.goto 4, 3) := by decide +kernel
theorem dX12_pass_73 : decode cX12_pass 73 = .ok (.iconst 0, 1) := by decide +kernel
theorem dX12_pass_74 : decode cX12_pass 74 = .ok (.ireturn, 1) := by decide +kernel
theorem dX12_told_0 : decode cX12_told 0 = .ok (.iload_n 1, 1) := by decide +kernel
theorem dX12_told_1 : decode cX12_told 1 = .ok (.ifCond .ne 10, 3) := by decide +kernel
theorem dX12_told_4 : decode cX12_told 4 = .ok (.aload_n 0, 1) := by decide +kernel
theorem dX12_told_5 : decode cX12_told 5 = .ok (.getfield 7, 3) := by decide +kernel
theorem dX12_told_8 : decode cX12_told 8 = .ok (.goto 118, 3) := by decide +kernel
theorem dX12_told_11 : decode cX12_told 11 = .ok (.iload_n 1, 1) := by decide +kernel
theorem dX12_told_12 : decode cX12_told 12 = .ok (.iconst 1, 1) := by decide +kernel
theorem dX12_told_13 : decode cX12_told 13 = .ok (.if_icmp .ne 11, 3) := by decide +kernel
theorem dX12_told_16 : decode cX12_told 16 = .ok (.aload_n 0, 1) := by decide +kernel
theorem dX12_told_17 : decode cX12_told 17 = .ok (.getfield 13, 3) := by decide +kernel
theorem dX12_told_20 : decode cX12_told 20 = .ok (.arraylength, 1) := by decide +kernel
theorem dX12_told_21 : decode cX12_told 21 = .ok (.goto 105, 3) := by decide +kernel
theorem dX12_told_24 : decode cX12_told 24 = .ok (.iload_n 1, 1) := by decide +kernel
theorem dX12_told_25 : decode cX12_told 25 = .ok (.iconst 2, 1) := by decide +kernel
theorem dX12_told_26 : decode cX12_told 26 = .ok (.if_icmp .ne 11, 3) := by decide +kernel
theorem dX12_told_29 : decode cX12_told 29 = .ok (.aload_n 0, 1) := by decide +kernel
theorem dX12_told_30 : decode cX12_told 30 = .ok (.getfield 26, 3) := by decide +kernel
theorem dX12_told_33 : decode cX12_told 33 = .ok (.arraylength, 1) := by decide +kernel
theorem dX12_told_34 : decode cX12_told 34 = .ok (.goto 92, 3) := by decide +kernel
theorem dX12_told_37 : decode cX12_told 37 = .ok (.iload_n 1, 1) := by decide +kernel
theorem dX12_told_38 : decode cX12_told 38 = .ok (.iconst 3, 1) := by decide +kernel
theorem dX12_told_39 : decode cX12_told 39 = .ok (.if_icmp .ne 21, 3) := by decide +kernel
theorem dX12_told_42 : decode cX12_told 42 = .ok (.aload_n 0, 1) := by decide +kernel
theorem dX12_told_43 : decode cX12_told 43 = .ok (.invokevirtual 137, 3) := by decide +kernel
theorem dX12_told_46 : decode cX12_told 46 = .ok (.ifCond .eq 7, 3) := by decide +kernel
theorem dX12_told_49 : decode cX12_told 49 = .ok (.iconst (-1), 1) := by decide +kernel
theorem dX12_told_50 : decode cX12_told 50 = .ok (.goto 76, 3) := by decide +kernel
theorem dX12_told_53 : decode cX12_told 53 = .ok (.aload_n 0, 1) := by decide +kernel
theorem dX12_told_54 : decode cX12_told 54 = .ok (.getfield 40, 3) := by decide +kernel
theorem dX12_told_57 : decode cX12_told 57 = .ok (.goto 69, 3) := by decide +kernel
theorem dX12_told_60 : decode cX12_told 60 = .ok (.iload_n 1, 1) := by decide +kernel
theorem dX12_told_61 : decode cX12_told 61 = .ok (.iconst 4, 1) := by decide +kernel
theorem dX12_told_62 : decode cX12_told 62 = .ok (.if_icmp .ne 21, 3) := by decide +kernel
theorem dX12_told_65 : decode cX12_told 65 = .ok (.aload_n 0, 1) := by decide +kernel
theorem dX12_told_66 : decode cX12_told 66 = .ok (.invokevirtual 137, 3) := by decide +kernel
theorem dX12_told_69 : decode cX12_told 69 = .ok (.ifCond .eq 7, 3) := by decide +kernel
theorem dX12_told_72 : decode cX12_told 72 = .ok (.iconst (-1), 1) := by decide +kernel
theorem dX12_told_73 : decode cX12_told 73 = .ok (.goto 53, 3) := by decide +kernel
theorem dX12_told_76 : decode cX12_told 76 = .ok (.aload_n 0, 1) := by decide +kernel
theorem dX12_told_77 : decode cX12_told 77 = .ok (.getfield 43, 3) := by decide +kernel
theorem dX12_told_80 : decode cX12_told 80 = .ok (.goto 46, 3) := by decide +kernel
theorem dX12_told_83 : decode cX12_told 83 = .ok (.iload_n 1, 1) := by decide +kernel
theorem dX12_told_84 : decode cX12_told 84 = .ok (.iconst 5, 1) := by decide +kernel
theorem dX12_told_85 : decode cX12_told 85 = .ok (.if_icmp .ne 11, 3) := by decide +kernel
theorem dX12_told_88 : decode cX12_told 88 = .ok (.aload_n 0, 1) := by decide +kernel
theorem dX12_told_89 : decode cX12_told 89 = .ok (.getfield 31, 3) := by decide +kernel
theorem dX12_told_92 : decode cX12_told 92 = .ok (.arraylength, 1) := by decide +kernel
theorem dX12_told_93 : decode cX12_told 93 = .ok (.goto 33, 3) := by decide +kernel
theorem dX12_told_96 : decode cX12_told 96 = .ok (.iload_n 1, 1) := by decide +kernel
theorem dX12_told_97 : decode cX12_told 97 = .ok (.bipush 6, 2) := by decide +kernel
theorem dX12_told_99 : decode cX12_told 99 = .ok (.if_icmp .ne 10, 3) := by decide +kernel
theorem dX12_told_102 : decode cX12_told 102 = .ok (.aload_n 0, 1) := by decide +kernel
theorem dX12_told_103 : decode cX12_told 103 = .ok (.getfield 46, 3) := by decide +kernel
theorem dX12_told_106 : decode cX12_told 106 = .ok (.goto 20, 3) := by decide +kernel
theorem dX12_told_109 : decode cX12_told 109 = .ok (.iload_n 1, 1) := by decide +kernel
theorem dX12_told_110 : decode cX12_told 110 = .ok (.bipush 7, 2) := by decide +kernel
theorem dX12_told_112 : decode cX12_told 112 = .ok (.if_icmp .ne 10, 3) := by decide +kernel
theorem dX12_told_115 : decode cX12_told 115 = .ok (.aload_n 0, 1) := by decide +kernel
theorem dX12_told_116 : decode cX12_told 116 = .ok (.getfield 49, 3) := by decide +kernel
theorem dX12_told_119 : decode cX12_told 119 = .ok (.goto 7, 3) := by decide +kernel
theorem dX12_told_122 : decode cX12_told 122 = .ok (.aload_n 0, 1) := by decide +kernel
theorem dX12_told_123 : decode cX12_told 123 = .ok (.getfield 52, 3) := by decide +kernel
theorem dX12_told_126 : decode cX12_told 126 = .ok (.ireturn, 1) := by decide +kernel
theorem dX12_sum_0 : decode cX12_sum 0 = .ok (.lconst 0, 1) := by decide +kernel
theorem dX12_sum_1 : decode cX12_sum 1 = .ok (.lstore_n 1, 1) := by decide +kernel
theorem dX12_sum_2 : decode cX12_sum 2 = .ok (.iconst 0, 1) := by decide +kernel
theorem dX12_sum_3 : decode cX12_sum 3 = .ok (.istore_n 3, 1) := by decide +kernel
theorem dX12_sum_4 : decode cX12_sum 4 = .ok (.iload_n 3, 1) := by decide +kernel
theorem dX12_sum_5 : decode cX12_sum 5 = .ok (.bipush 9, 2) := by decide +kernel
theorem dX12_sum_7 : decode cX12_sum 7 = .ok (.if_icmp .ge 22, 3) := by decide +kernel
theorem dX12_sum_10 : decode cX12_sum 10 = .ok (.ldc2_w 141, 3) := by decide +kernel
theorem dX12_sum_13 : decode cX12_sum 13 = .ok (.lload_n 1, 1) := by decide +kernel
theorem dX12_sum_14 : decode cX12_sum 14 = .ok (.lmul, 1) := by decide +kernel
theorem dX12_sum_15 : decode cX12_sum 15 = .ok (.aload_n 0, 1) := by decide +kernel
theorem dX12_sum_16 : decode cX12_sum 16 = .ok (.iload_n 3, 1) := by decide +kernel
theorem dX12_sum_17 : decode cX12_sum 17 = .ok (.invokevirtual 143, 3) := by decide +kernel
theorem dX12_sum_20 : decode cX12_sum 20 = .ok (.i2l, 1) := by decide +kernel
theorem dX12_sum_21 : decode cX12_sum 21 = .ok (.ladd, 1) := by decide +kernel
theorem dX12_sum_22 : decode cX12_sum 22 = .ok (.lstore_n 1, 1) := by decide +kernel
theorem dX12_sum_23 : decode cX12_sum 23 = .ok (.iinc 3 1, 3) := by decide +kernel
theorem dX12_sum_26 : decode cX12_sum 26 = .ok (.goto (-22), 3) := by decide +kernel
theorem dX12_sum_29 : decode cX12_sum 29 = .ok (.iconst 0, 1) := by decide +kernel
theorem dX12_sum_30 : decode cX12_sum 30 = .ok (.istore_n 3, 1) := by decide +kernel
theorem dX12_sum_31 : decode cX12_sum 31 = .ok (.iload_n 3, 1) := by decide +kernel
theorem dX12_sum_32 : decode cX12_sum 32 = .ok (.aload_n 0, 1) := by decide +kernel
theorem dX12_sum_33 : decode cX12_sum 33 = .ok (.getfield 13, 3) := by decide +kernel
theorem dX12_sum_36 : decode cX12_sum 36 = .ok (.arraylength, 1) := by decide +kernel
theorem dX12_sum_37 : decode cX12_sum 37 = .ok (.if_icmp .ge 123, 3) := by decide +kernel
theorem dX12_sum_40 : decode cX12_sum 40 = .ok (.ldc2_w 141, 3) := by decide +kernel
theorem dX12_sum_43 : decode cX12_sum 43 = .ok (.ldc2_w 141, 3) := by decide +kernel
theorem dX12_sum_46 : decode cX12_sum 46 = .ok (.ldc2_w 141, 3) := by decide +kernel
theorem dX12_sum_49 : decode cX12_sum 49 = .ok (.lload_n 1, 1) := by decide +kernel
theorem dX12_sum_50 : decode cX12_sum 50 = .ok (.lmul, 1) := by decide +kernel
theorem dX12_sum_51 : decode cX12_sum 51 = .ok (.aload_n 0, 1) := by decide +kernel
theorem dX12_sum_52 : decode cX12_sum 52 = .ok (.getfield 13, 3) := by decide +kernel
theorem dX12_sum_55 : decode cX12_sum 55 = .ok (.iload_n 3, 1) := by decide +kernel
theorem dX12_sum_56 : decode cX12_sum 56 = .ok (.iaload, 1) := by decide +kernel
theorem dX12_sum_57 : decode cX12_sum 57 = .ok (.i2l, 1) := by decide +kernel
theorem dX12_sum_58 : decode cX12_sum 58 = .ok (.ladd, 1) := by decide +kernel
theorem dX12_sum_59 : decode cX12_sum 59 = .ok (.lmul, 1) := by decide +kernel
theorem dX12_sum_60 : decode cX12_sum 60 = .ok (.aload_n 0, 1) := by decide +kernel
theorem dX12_sum_61 : decode cX12_sum 61 = .ok (.getfield 22, 3) := by decide +kernel
theorem dX12_sum_64 : decode cX12_sum 64 = .ok (.iload_n 3, 1) := by decide +kernel
theorem dX12_sum_65 : decode cX12_sum 65 = .ok (.aaload, 1) := by decide +kernel
theorem dX12_sum_66 : decode cX12_sum 66 = .ok (.arraylength, 1) := by decide +kernel
theorem dX12_sum_67 : decode cX12_sum 67 = .ok (.i2l, 1) := by decide +kernel
theorem dX12_sum_68 : decode cX12_sum 68 = .ok (.ladd, 1) := by decide +kernel
theorem dX12_sum_69 : decode cX12_sum 69 = .ok (.lmul, 1) := by decide +kernel
theorem dX12_sum_70 : decode cX12_sum 70 = .ok (.aload_n 0, 1) := by decide +kernel
theorem dX12_sum_71 : decode cX12_sum 71 = .ok (.getfield 17, 3) := by decide +kernel
theorem dX12_sum_74 : decode cX12_sum 74 = .ok (.iload_n 3, 1) := by decide +kernel
theorem dX12_sum_75 : decode cX12_sum 75 = .ok (.iaload, 1) := by decide +kernel
theorem dX12_sum_76 : decode cX12_sum 76 = .ok (.i2l, 1) := by decide +kernel
theorem dX12_sum_77 : decode cX12_sum 77 = .ok (.ladd, 1) := by decide +kernel
theorem dX12_sum_78 : decode cX12_sum 78 = .ok (.lstore_n 1, 1) := by decide +kernel
theorem dX12_sum_79 : decode cX12_sum 79 = .ok (.aload_n 0, 1) := by decide +kernel
theorem dX12_sum_80 : decode cX12_sum 80 = .ok (.getfield 22, 3) := by decide +kernel
theorem dX12_sum_83 : decode cX12_sum 83 = .ok (.iload_n 3, 1) := by decide +kernel
theorem dX12_sum_84 : decode cX12_sum 84 = .ok (.aaload, 1) := by decide +kernel
theorem dX12_sum_85 : decode cX12_sum 85 = .ok (.astore 4, 2) := by decide +kernel
theorem dX12_sum_87 : decode cX12_sum 87 = .ok (.aload 4, 2) := by decide +kernel
theorem dX12_sum_89 : decode cX12_sum 89 = .ok (.arraylength, 1) := by decide +kernel
theorem dX12_sum_90 : decode cX12_sum 90 = .ok (.istore 5, 2) := by decide +kernel
theorem dX12_sum_92 : decode cX12_sum 92 = .ok (.iconst 0, 1) := by decide +kernel
theorem dX12_sum_93 : decode cX12_sum 93 = .ok (.istore 6, 2) := by decide +kernel
theorem dX12_sum_95 : decode cX12_sum 95 = .ok (.iload 6, 2) := by decide +kernel
theorem dX12_sum_97 : decode cX12_sum 97 = .ok (.iload 5, 2) := by decide +kernel
theorem dX12_sum_99 : decode cX12_sum 99 = .ok (.if_icmp .ge 55, 3) := by decide +kernel
theorem dX12_sum_102 : decode cX12_sum 102 = .ok (.aload 4, 2) := by decide +kernel
theorem dX12_sum_104 : decode cX12_sum 104 = .ok (.iload 6, 2) := by decide +kernel
theorem dX12_sum_106 : decode cX12_sum 106 = .ok (.aaload, 1) := by decide +kernel
theorem dX12_sum_107 : decode cX12_sum 107 = .ok (.astore 7, 2) := by decide +kernel
theorem dX12_sum_109 : decode cX12_sum 109 = .ok (.ldc2_w 141, 3) := by decide +kernel
theorem dX12_sum_112 : decode cX12_sum 112 = .ok (.ldc2_w 141, 3) := by decide +kernel
theorem dX12_sum_115 : decode cX12_sum 115 = .ok (.ldc2_w 141, 3) := by decide +kernel
theorem dX12_sum_118 : decode cX12_sum 118 = .ok (.lload_n 1, 1) := by decide +kernel
theorem dX12_sum_119 : decode cX12_sum 119 = .ok (.lmul, 1) := by decide +kernel
theorem dX12_sum_120 : decode cX12_sum 120 = .ok (.aload 7, 2) := by decide +kernel
theorem dX12_sum_122 : decode cX12_sum 122 = .ok (.getfield 65, 3) := by decide +kernel
theorem dX12_sum_125 : decode cX12_sum 125 = .ok (.invokestatic 147, 3) := by decide +kernel
theorem dX12_sum_128 : decode cX12_sum 128 = .ok (.i2l, 1) := by decide +kernel
theorem dX12_sum_129 : decode cX12_sum 129 = .ok (.ladd, 1) := by decide +kernel
theorem dX12_sum_130 : decode cX12_sum 130 = .ok (.lmul, 1) := by decide +kernel
theorem dX12_sum_131 : decode cX12_sum 131 = .ok (.aload 7, 2) := by decide +kernel
theorem dX12_sum_133 : decode cX12_sum 133 = .ok (.getfield 72, 3) := by decide +kernel
theorem dX12_sum_136 : decode cX12_sum 136 = .ok (.i2l, 1) := by decide +kernel
theorem dX12_sum_137 : decode cX12_sum 137 = .ok (.ladd, 1) := by decide +kernel
theorem dX12_sum_138 : decode cX12_sum 138 = .ok (.lmul, 1) := by decide +kernel
theorem dX12_sum_139 : decode cX12_sum 139 = .ok (.aload_n 0, 1) := by decide +kernel
theorem dX12_sum_140 : decode cX12_sum 140 = .ok (.aload 7, 2) := by decide +kernel
theorem dX12_sum_142 : decode cX12_sum 142 = .ok (.invokevirtual 115, 3) := by decide +kernel
theorem dX12_sum_145 : decode cX12_sum 145 = .ok (.i2l, 1) := by decide +kernel
theorem dX12_sum_146 : decode cX12_sum 146 = .ok (.ladd, 1) := by decide +kernel
theorem dX12_sum_147 : decode cX12_sum 147 = .ok (.lstore_n 1, 1) := by decide +kernel
theorem dX12_sum_148 : decode cX12_sum 148 = .ok (.iinc 6 1, 3) := by decide +kernel
theorem dX12_sum_151 : decode cX12_sum 151 = .ok (.goto (-56), 3) := by decide +kernel
theorem dX12_sum_154 : decode cX12_sum 154 = .ok (.iinc 3 1, 3) := by decide +kernel
theorem dX12_sum_157 : decode cX12_sum 157 = .ok (.goto (-126), 3) := by decide +kernel
theorem dX12_sum_160 : decode cX12_sum 160 = .ok (.aload_n 0, 1) := by decide +kernel
theorem dX12_sum_161 : decode cX12_sum 161 = .ok (.getfield 31, 3) := by decide +kernel
theorem dX12_sum_164 : decode cX12_sum 164 = .ok (.astore_n 3, 1) := by decide +kernel
theorem dX12_sum_165 : decode cX12_sum 165 = .ok (.aload_n 3, 1) := by decide +kernel
theorem dX12_sum_166 : decode cX12_sum 166 = .ok (.arraylength, 1) := by decide +kernel
theorem dX12_sum_167 : decode cX12_sum 167 = .ok (.istore 4, 2) := by decide +kernel
theorem dX12_sum_169 : decode cX12_sum 169 = .ok (.iconst 0, 1) := by decide +kernel
theorem dX12_sum_170 : decode cX12_sum 170 = .ok (.istore 5, 2) := by decide +kernel
theorem dX12_sum_172 : decode cX12_sum 172 = .ok (.iload 5, 2) := by decide +kernel
theorem dX12_sum_174 : decode cX12_sum 174 = .ok (.iload 4, 2) := by decide +kernel
theorem dX12_sum_176 : decode cX12_sum 176 = .ok (.if_icmp .ge 53, 3) := by decide +kernel
theorem dX12_sum_179 : decode cX12_sum 179 = .ok (.aload_n 3, 1) := by decide +kernel
theorem dX12_sum_180 : decode cX12_sum 180 = .ok (.iload 5, 2) := by decide +kernel
theorem dX12_sum_182 : decode cX12_sum 182 = .ok (.aaload, 1) := by decide +kernel
theorem dX12_sum_183 : decode cX12_sum 183 = .ok (.astore 6, 2) := by decide +kernel
theorem dX12_sum_185 : decode cX12_sum 185 = .ok (.ldc2_w 141, 3) := by decide +kernel
theorem dX12_sum_188 : decode cX12_sum 188 = .ok (.ldc2_w 141, 3) := by decide +kernel
theorem dX12_sum_191 : decode cX12_sum 191 = .ok (.ldc2_w 141, 3) := by decide +kernel
theorem dX12_sum_194 : decode cX12_sum 194 = .ok (.lload_n 1, 1) := by decide +kernel
theorem dX12_sum_195 : decode cX12_sum 195 = .ok (.lmul, 1) := by decide +kernel
theorem dX12_sum_196 : decode cX12_sum 196 = .ok (.aload 6, 2) := by decide +kernel
theorem dX12_sum_198 : decode cX12_sum 198 = .ok (.getfield 134, 3) := by decide +kernel
theorem dX12_sum_201 : decode cX12_sum 201 = .ok (.i2l, 1) := by decide +kernel
theorem dX12_sum_202 : decode cX12_sum 202 = .ok (.ladd, 1) := by decide +kernel
theorem dX12_sum_203 : decode cX12_sum 203 = .ok (.lmul, 1) := by decide +kernel
theorem dX12_sum_204 : decode cX12_sum 204 = .ok (.aload 6, 2) := by decide +kernel
theorem dX12_sum_206 : decode cX12_sum 206 = .ok (.getfield 65, 3) := by decide +kernel
theorem dX12_sum_209 : decode cX12_sum 209 = .ok (.invokestatic 147, 3) := by decide +kernel
theorem dX12_sum_212 : decode cX12_sum 212 = .ok (.i2l, 1) := by decide +kernel
theorem dX12_sum_213 : decode cX12_sum 213 = .ok (.ladd, 1) := by decide +kernel
theorem dX12_sum_214 : decode cX12_sum 214 = .ok (.lmul, 1) := by decide +kernel
theorem dX12_sum_215 : decode cX12_sum 215 = .ok (.aload 6, 2) := by decide +kernel
theorem dX12_sum_217 : decode cX12_sum 217 = .ok (.getfield 72, 3) := by decide +kernel
theorem dX12_sum_220 : decode cX12_sum 220 = .ok (.i2l, 1) := by decide +kernel
theorem dX12_sum_221 : decode cX12_sum 221 = .ok (.ladd, 1) := by decide +kernel
theorem dX12_sum_222 : decode cX12_sum 222 = .ok (.lstore_n 1, 1) := by decide +kernel
theorem dX12_sum_223 : decode cX12_sum 223 = .ok (.iinc 5 1, 3) := by decide +kernel
theorem dX12_sum_226 : decode cX12_sum 226 = .ok (.goto (-54), 3) := by decide +kernel
theorem dX12_sum_229 : decode cX12_sum 229 = .ok (.ldc2_w 141, 3) := by decide +kernel
theorem dX12_sum_232 : decode cX12_sum 232 = .ok (.lload_n 1, 1) := by decide +kernel
theorem dX12_sum_233 : decode cX12_sum 233 = .ok (.lmul, 1) := by decide +kernel
theorem dX12_sum_234 : decode cX12_sum 234 = .ok (.aload_n 0, 1) := by decide +kernel
theorem dX12_sum_235 : decode cX12_sum 235 = .ok (.iconst 0, 1) := by decide +kernel
theorem dX12_sum_236 : decode cX12_sum 236 = .ok (.aload_n 0, 1) := by decide +kernel
theorem dX12_sum_237 : decode cX12_sum 237 = .ok (.getfield 31, 3) := by decide +kernel
theorem dX12_sum_240 : decode cX12_sum 240 = .ok (.arraylength, 1) := by decide +kernel
theorem dX12_sum_241 : decode cX12_sum 241 = .ok (.invokevirtual 100, 3) := by decide +kernel
theorem dX12_sum_244 : decode cX12_sum 244 = .ok (.invokestatic 147, 3) := by decide +kernel
theorem dX12_sum_247 : decode cX12_sum 247 = .ok (.i2l, 1) := by decide +kernel
theorem dX12_sum_248 : decode cX12_sum 248 = .ok (.ladd, 1) := by decide +kernel
theorem dX12_sum_249 : decode cX12_sum 249 = .ok (.lreturn, 1) := by decide +kernel
theorem dJ5_init_d00df_0 : decode cJ5_init_d00df 0 = .ok (.aload_n 0, 1) := by decide +kernel
theorem dJ5_init_d00df_1 : decode cJ5_init_d00df 1 = .ok (.invokespecial 3, 3) := by decide +kernel
theorem dJ5_init_d00df_4 : decode cJ5_init_d00df 4 = .ok (.getstatic 18, 3) := by decide +kernel
theorem dJ5_init_d00df_7 : decode cJ5_init_d00df 7 = .ok (.ifCond .eq 18, 3) := by decide +kernel
theorem dJ5_init_d00df_10 : decode cJ5_init_d00df 10 = .ok (.aload_n 0, 1) := by decide +kernel
theorem dJ5_init_d00df_11 : decode cJ5_init_d00df 11 = .ok (.iload_n 1, 1) := by decide +kernel
theorem dJ5_init_d00df_12 : decode cJ5_init_d00df 12 = .ok (.newarray .byte, 2) := by decide +kernel
theorem dJ5_init_d00df_14 : decode cJ5_init_d00df 14 = .ok (.putfield 15, 3) := by decide +kernel
theorem dJ5_init_d00df_17 : decode cJ5_init_d00df 17 = .ok (.aload_n 0, 1) := by decide +kernel
theorem dJ5_init_d00df_18 : decode cJ5_init_d00df 18 = .ok (.iconst 0, 1) := by decide +kernel
theorem dJ5_init_d00df_19 : decode cJ5_init_d00df 19 = .ok (.putfield 22, 3) := by decide +kernel
theorem dJ5_init_d00df_22 : decode cJ5_init_d00df 22 = .ok (.goto 16, 3) := by decide +kernel
theorem dJ5_init_d00df_25 : decode cJ5_init_d00df 25 = .ok (.aload_n 0, 1) := by decide +kernel
theorem dJ5_init_d00df_26 : decode cJ5_init_d00df 26 = .ok (.iload_n 1, 1) := by decide +kernel
theorem dJ5_init_d00df_27 : decode cJ5_init_d00df 27 = .ok (.invokestatic 26, 3) := by decide +kernel
theorem dJ5_init_d00df_30 : decode cJ5_init_d00df 30 = .ok (.putfield 15, 3) := by decide +kernel
theorem dJ5_init_d00df_33 : decode cJ5_init_d00df 33 = .ok (.aload_n 0, 1) := by decide +kernel
theorem dJ5_init_d00df_34 : decode cJ5_init_d00df 34 = .ok (.iconst 1, 1) := by decide +kernel
theorem dJ5_init_d00df_35 : decode cJ5_init_d00df 35 = .ok (.putfield 22, 3) := by decide +kernel
theorem dJ5_init_d00df_38 : decode cJ5_init_d00df 38 = .ok (.return_, 1) := by decide +kernel
theorem dJ5_length_8abf5_0 : decode cJ5_length_8abf5 0 = .ok (.aload_n 0, 1) := by decide +kernel
theorem dJ5_length_8abf5_1 : decode cJ5_length_8abf5 1 = .ok (.getfield 79, 3) := by decide +kernel
theorem dJ5_length_8abf5_4 : decode cJ5_length_8abf5 4 = .ok (.ireturn, 1) := by decide +kernel
theorem dJ5_ensureCapacityInternal_d00df_0 : decode cJ5_ensureCapacityInternal_d00df 0 = .ok (.aload_n 0, 1) := by decide +kernel
theorem dJ5_ensureCapacityInternal_d00df_1 : decode cJ5_ensureCapacityInternal_d00df 1 = .ok (.getfield 15, 3) := by decide +kernel
theorem dJ5_ensureCapacityInternal_d00df_4 : decode cJ5_ensureCapacityInternal_d00df 4 = .ok (.arraylength, 1) := by decide +kernel
theorem dJ5_ensureCapacityInternal_d00df_5 : decode cJ5_ensureCapacityInternal_d00df 5 = .ok (.aload_n 0, 1) := by decide +kernel
theorem dJ5_ensureCapacityInternal_d00df_6 : decode cJ5_ensureCapacityInternal_d00df 6 = .ok (.getfield 22, 3) := by decide +kernel
theorem dJ5_ensureCapacityInternal_d00df_9 : decode cJ5_ensureCapacityInternal_d00df 9 = .ok (.ishr, 1) := by decide +kernel
theorem dJ5_ensureCapacityInternal_d00df_10 : decode cJ5_ensureCapacityInternal_d00df 10 = .ok (.istore_n 2, 1) := by decide +kernel
theorem dJ5_ensureCapacityInternal_d00df_11 : decode cJ5_ensureCapacityInternal_d00df 11 = .ok (.iload_n 1, 1) := by decide +kernel
theorem dJ5_ensureCapacityInternal_d00df_12 : decode cJ5_ensureCapacityInternal_d00df 12 = .ok (.iload_n 2, 1) := by decide +kernel
theorem dJ5_ensureCapacityInternal_d00df_13 : decode cJ5_ensureCapacityInternal_d00df 13 = .ok (.isub, 1) := by decide +kernel
theorem dJ5_ensureCapacityInternal_d00df_14 : decode cJ5_ensureCapacityInternal_d00df 14 = .ok (.ifCond .le 24, 3) := by decide +kernel
theorem dJ5_ensureCapacityInternal_d00df_17 : decode cJ5_ensureCapacityInternal_d00df 17 = .ok (.aload_n 0, 1) := by decide +kernel
theorem dJ5_ensureCapacityInternal_d00df_18 : decode cJ5_ensureCapacityInternal_d00df 18 = .ok (.aload_n 0, 1) := by decide +kernel
theorem dJ5_ensureCapacityInternal_d00df_19 : decode cJ5_ensureCapacityInternal_d00df 19 = .ok (.getfield 15, 3) := by decide +kernel
theorem dJ5_ensureCapacityInternal_d00df_22 : decode cJ5_ensureCapacityInternal_d00df 22 = .ok (.aload_n 0, 1) := by decide +kernel
theorem dJ5_ensureCapacityInternal_d00df_23 : decode cJ5_ensureCapacityInternal_d00df 23 = .ok (.iload_n 1, 1) := by decide +kernel
theorem dJ5_ensureCapacityInternal_d00df_24 : decode cJ5_ensureCapacityInternal_d00df 24 = .ok (.invokevirtual 104, 3) := by decide +kernel
theorem dJ5_ensureCapacityInternal_d00df_27 : decode cJ5_ensureCapacityInternal_d00df 27 = .ok (.aload_n 0, 1) := by decide +kernel
theorem dJ5_ensureCapacityInternal_d00df_28 : decode cJ5_ensureCapacityInternal_d00df 28 = .ok (.getfield 22, 3) := by decide +kernel
theorem dJ5_ensureCapacityInternal_d00df_31 : decode cJ5_ensureCapacityInternal_d00df 31 = .ok (.ishl, 1) := by decide +kernel
theorem dJ5_ensureCapacityInternal_d00df_32 : decode cJ5_ensureCapacityInternal_d00df 32 = .ok (.invokestatic 108, 3) := by decide +kernel
theorem dJ5_ensureCapacityInternal_d00df_35 : decode cJ5_ensureCapacityInternal_d00df 35 = .ok (.putfield 15, 3) := by decide +kernel
theorem dJ5_ensureCapacityInternal_d00df_38 : decode cJ5_ensureCapacityInternal_d00df 38 = .ok (.return_, 1) := by decide +kernel
theorem dJ5_newCapacity_0f7a4_0 : decode cJ5_newCapacity_0f7a4 0 = .ok (.aload_n 0, 1) := by decide +kernel
theorem dJ5_newCapacity_0f7a4_1 : decode cJ5_newCapacity_0f7a4 1 = .ok (.getfield 15, 3) := by decide +kernel
theorem dJ5_newCapacity_0f7a4_4 : decode cJ5_newCapacity_0f7a4 4 = .ok (.arraylength, 1) := by decide +kernel
theorem dJ5_newCapacity_0f7a4_5 : decode cJ5_newCapacity_0f7a4 5 = .ok (.istore_n 2, 1) := by decide +kernel
theorem dJ5_newCapacity_0f7a4_6 : decode cJ5_newCapacity_0f7a4 6 = .ok (.iload_n 1, 1) := by decide +kernel
theorem dJ5_newCapacity_0f7a4_7 : decode cJ5_newCapacity_0f7a4 7 = .ok (.aload_n 0, 1) := by decide +kernel
theorem dJ5_newCapacity_0f7a4_8 : decode cJ5_newCapacity_0f7a4 8 = .ok (.getfield 22, 3) := by decide +kernel
theorem dJ5_newCapacity_0f7a4_11 : decode cJ5_newCapacity_0f7a4 11 = .ok (.ishl, 1) := by decide +kernel
theorem dJ5_newCapacity_0f7a4_12 : decode cJ5_newCapacity_0f7a4 12 = .ok (.istore_n 3, 1) := by decide +kernel
theorem dJ5_newCapacity_0f7a4_13 : decode cJ5_newCapacity_0f7a4 13 = .ok (.iload_n 3, 1) := by decide +kernel
theorem dJ5_newCapacity_0f7a4_14 : decode cJ5_newCapacity_0f7a4 14 = .ok (.iload_n 2, 1) := by decide +kernel
theorem dJ5_newCapacity_0f7a4_15 : decode cJ5_newCapacity_0f7a4 15 = .ok (.isub, 1) := by decide +kernel
theorem dJ5_newCapacity_0f7a4_16 : decode cJ5_newCapacity_0f7a4 16 = .ok (.istore 4, 2) := by decide +kernel
theorem dJ5_newCapacity_0f7a4_18 : decode cJ5_newCapacity_0f7a4 18 = .ok (.iload_n 2, 1) := by decide +kernel
theorem dJ5_newCapacity_0f7a4_19 : decode cJ5_newCapacity_0f7a4 19 = .ok (.iload 4, 2) := by decide +kernel
theorem dJ5_newCapacity_0f7a4_21 : decode cJ5_newCapacity_0f7a4 21 = .ok (.iload_n 2, 1) := by decide +kernel
theorem dJ5_newCapacity_0f7a4_22 : decode cJ5_newCapacity_0f7a4 22 = .ok (.iconst 2, 1) := by decide +kernel
theorem dJ5_newCapacity_0f7a4_23 : decode cJ5_newCapacity_0f7a4 23 = .ok (.aload_n 0, 1) := by decide +kernel
theorem dJ5_newCapacity_0f7a4_24 : decode cJ5_newCapacity_0f7a4 24 = .ok (.getfield 22, 3) := by decide +kernel
theorem dJ5_newCapacity_0f7a4_27 : decode cJ5_newCapacity_0f7a4 27 = .ok (.ishl, 1) := by decide +kernel
theorem dJ5_newCapacity_0f7a4_28 : decode cJ5_newCapacity_0f7a4 28 = .ok (.iadd, 1) := by decide +kernel
theorem dJ5_newCapacity_0f7a4_29 : decode cJ5_newCapacity_0f7a4 29 = .ok (.invokestatic 114, 3) := by decide +kernel
theorem dJ5_newCapacity_0f7a4_32 : decode cJ5_newCapacity_0f7a4 32 = .ok (.istore 5, 2) := by decide +kernel
theorem dJ5_newCapacity_0f7a4_34 : decode cJ5_newCapacity_0f7a4 34 = .ok (.iload 5, 2) := by decide +kernel
theorem dJ5_newCapacity_0f7a4_36 : decode cJ5_newCapacity_0f7a4 36 = .ok (.ldc 39, 2) := by decide +kernel
theorem dJ5_newCapacity_0f7a4_38 : decode cJ5_newCapacity_0f7a4 38 = .ok (.if_icmp .ne 13, 3) := by decide +kernel
theorem dJ5_newCapacity_0f7a4_41 : decode cJ5_newCapacity_0f7a4 41 = .ok (.new 120, 3) := by decide +kernel
theorem dJ5_newCapacity_0f7a4_44 : decode cJ5_newCapacity_0f7a4 44 = .ok (.dup, 1) := by decide +kernel
theorem dJ5_newCapacity_0f7a4_45 : decode cJ5_newCapacity_0f7a4 45 = .ok (.ldc 122, 2) := by decide +kernel
theorem dJ5_newCapacity_0f7a4_47 : decode cJ5_newCapacity_0f7a4 47 = .ok (.invokespecial 124, 3) := by decide +kernel
theorem dJ5_newCapacity_0f7a4_50 : decode cJ5_newCapacity_0f7a4 50 = .ok (.athrow, 1) := by decide +kernel
theorem dJ5_newCapacity_0f7a4_51 : decode cJ5_newCapacity_0f7a4 51 = .ok (.iload 5, 2) := by decide +kernel
theorem dJ5_newCapacity_0f7a4_53 : decode cJ5_newCapacity_0f7a4 53 = .ok (.aload_n 0, 1) := by decide +kernel
theorem dJ5_newCapacity_0f7a4_54 : decode cJ5_newCapacity_0f7a4 54 = .ok (.getfield 22, 3) := by decide +kernel
theorem dJ5_newCapacity_0f7a4_57 : decode cJ5_newCapacity_0f7a4 57 = .ok (.ishr, 1) := by decide +kernel
theorem dJ5_newCapacity_0f7a4_58 : decode cJ5_newCapacity_0f7a4 58 = .ok (.ireturn, 1) := by decide +kernel
theorem dJ5_inflate_da8c8_0 : decode cJ5_inflate_da8c8 0 = .ok (.aload_n 0, 1) := by decide +kernel
theorem dJ5_inflate_da8c8_1 : decode cJ5_inflate_da8c8 1 = .ok (.invokevirtual 83, 3) := by decide +kernel
theorem dJ5_inflate_da8c8_4 : decode cJ5_inflate_da8c8 4 = .ok (.ifCond .ne 4, 3) := by decide +kernel
theorem dJ5_inflate_da8c8_7 : decode cJ5_inflate_da8c8 7 = .ok (.return_, 1) := by decide +kernel
theorem dJ5_inflate_da8c8_8 : decode cJ5_inflate_da8c8 8 = .ok (.aload_n 0, 1) := by decide +kernel
theorem dJ5_inflate_da8c8_9 : decode cJ5_inflate_da8c8 9 = .ok (.getfield 15, 3) := by decide +kernel
theorem dJ5_inflate_da8c8_12 : decode cJ5_inflate_da8c8 12 = .ok (.arraylength, 1) := by decide +kernel
theorem dJ5_inflate_da8c8_13 : decode cJ5_inflate_da8c8 13 = .ok (.invokestatic 26, 3) := by decide +kernel
theorem dJ5_inflate_da8c8_16 : decode cJ5_inflate_da8c8 16 = .ok (.astore_n 1, 1) := by decide +kernel
theorem dJ5_inflate_da8c8_17 : decode cJ5_inflate_da8c8 17 = .ok (.aload_n 0, 1) := by decide +kernel
theorem dJ5_inflate_da8c8_18 : decode cJ5_inflate_da8c8 18 = .ok (.getfield 15, 3) := by decide +kernel
theorem dJ5_inflate_da8c8_21 : decode cJ5_inflate_da8c8 21 = .ok (.iconst 0, 1) := by decide +kernel
theorem dJ5_inflate_da8c8_22 : decode cJ5_inflate_da8c8 22 = .ok (.aload_n 1, 1) := by decide +kernel
theorem dJ5_inflate_da8c8_23 : decode cJ5_inflate_da8c8 23 = .ok (.iconst 0, 1) := by decide +kernel
theorem dJ5_inflate_da8c8_24 : decode cJ5_inflate_da8c8 24 = .ok (.aload_n 0, 1) := by decide +kernel
theorem dJ5_inflate_da8c8_25 : decode cJ5_inflate_da8c8 25 = .ok (.getfield 79, 3) := by decide +kernel
theorem dJ5_inflate_da8c8_28 : decode cJ5_inflate_da8c8 28 = .ok (.invokestatic 125, 3) := by decide +kernel
theorem dJ5_inflate_da8c8_31 : decode cJ5_inflate_da8c8 31 = .ok (.aload_n 0, 1) := by decide +kernel
theorem dJ5_inflate_da8c8_32 : decode cJ5_inflate_da8c8 32 = .ok (.aload_n 1, 1) := by decide +kernel
theorem dJ5_inflate_da8c8_33 : decode cJ5_inflate_da8c8 33 = .ok (.putfield 15, 3) := by decide +kernel
theorem dJ5_inflate_da8c8_36 : decode cJ5_inflate_da8c8 36 = .ok (.aload_n 0, 1) := by decide +kernel
theorem dJ5_inflate_da8c8_37 : decode cJ5_inflate_da8c8 37 = .ok (.iconst 1, 1) := by decide +kernel
theorem dJ5_inflate_da8c8_38 : decode cJ5_inflate_da8c8 38 = .ok (.putfield 22, 3) := by decide +kernel
theorem dJ5_inflate_da8c8_41 : decode cJ5_inflate_da8c8 41 = .ok (.return_, 1) := by decide +kernel
theorem dJ5_append_cf1ce_0 : decode cJ5_append_cf1ce 0 = .ok (.aload_n 1, 1) := by decide +kernel
theorem dJ5_append_cf1ce_1 : decode cJ5_append_cf1ce 1 = .ok (.ifnonnull 8, 3) := by decide +kernel
theorem dJ5_append_cf1ce_4 : decode cJ5_append_cf1ce 4 = .ok (.aload_n 0, 1) := by decide +kernel
theorem dJ5_append_cf1ce_5 : decode cJ5_append_cf1ce 5 = .ok (.invokevirtual 204, 3) := by decide +kernel
theorem dJ5_append_cf1ce_8 : decode cJ5_append_cf1ce 8 = .ok (.areturn, 1) := by decide +kernel
theorem dJ5_append_cf1ce_9 : decode cJ5_append_cf1ce 9 = .ok (.aload_n 1, 1) := by decide +kernel
theorem dJ5_append_cf1ce_10 : decode cJ5_append_cf1ce 10 = .ok (.invokevirtual 32, 3) := by decide +kernel
theorem dJ5_append_cf1ce_13 : decode cJ5_append_cf1ce 13 = .ok (.istore_n 2, 1) := by decide +kernel
theorem dJ5_append_cf1ce_14 : decode cJ5_append_cf1ce 14 = .ok (.aload_n 0, 1) := by decide +kernel
theorem dJ5_append_cf1ce_15 : decode cJ5_append_cf1ce 15 = .ok (.aload_n 0, 1) := by decide +kernel
theorem dJ5_append_cf1ce_16 : decode cJ5_append_cf1ce 16 = .ok (.getfield 79, 3) := by decide +kernel
theorem dJ5_append_cf1ce_19 : decode cJ5_append_cf1ce 19 = .ok (.iload_n 2, 1) := by decide +kernel
theorem dJ5_append_cf1ce_20 : decode cJ5_append_cf1ce 20 = .ok (.iadd, 1) := by decide +kernel
theorem dJ5_append_cf1ce_21 : decode cJ5_append_cf1ce 21 = .ok (.invokevirtual 100, 3) := by decide +kernel
theorem dJ5_append_cf1ce_24 : decode cJ5_append_cf1ce 24 = .ok (.aload_n 0, 1) := by decide +kernel
theorem dJ5_append_cf1ce_25 : decode cJ5_append_cf1ce 25 = .ok (.aload_n 0, 1) := by decide +kernel
theorem dJ5_append_cf1ce_26 : decode cJ5_append_cf1ce 26 = .ok (.getfield 79, 3) := by decide +kernel
theorem dJ5_append_cf1ce_29 : decode cJ5_append_cf1ce 29 = .ok (.aload_n 1, 1) := by decide +kernel
theorem dJ5_append_cf1ce_30 : decode cJ5_append_cf1ce 30 = .ok (.invokevirtual 208, 3) := by decide +kernel
theorem dJ5_append_cf1ce_33 : decode cJ5_append_cf1ce 33 = .ok (.aload_n 0, 1) := by decide +kernel
theorem dJ5_append_cf1ce_34 : decode cJ5_append_cf1ce 34 = .ok (.dup, 1) := by decide +kernel
theorem dJ5_append_cf1ce_35 : decode cJ5_append_cf1ce 35 = .ok (.getfield 79, 3) := by decide +kernel
theorem dJ5_append_cf1ce_38 : decode cJ5_append_cf1ce 38 = .ok (.iload_n 2, 1) := by decide +kernel
theorem dJ5_append_cf1ce_39 : decode cJ5_append_cf1ce 39 = .ok (.iadd, 1) := by decide +kernel
theorem dJ5_append_cf1ce_40 : decode cJ5_append_cf1ce 40 = .ok (.putfield 79, 3) := by decide +kernel
theorem dJ5_append_cf1ce_43 : decode cJ5_append_cf1ce 43 = .ok (.aload_n 0, 1) := by decide +kernel
theorem dJ5_append_cf1ce_44 : decode cJ5_append_cf1ce 44 = .ok (.areturn, 1) := by decide +kernel
theorem dJ5_appendNull_278bc_0 : decode cJ5_appendNull_278bc 0 = .ok (.aload_n 0, 1) := by decide +kernel
theorem dJ5_appendNull_278bc_1 : decode cJ5_appendNull_278bc 1 = .ok (.aload_n 0, 1) := by decide +kernel
theorem dJ5_appendNull_278bc_2 : decode cJ5_appendNull_278bc 2 = .ok (.getfield 79, 3) := by decide +kernel
theorem dJ5_appendNull_278bc_5 : decode cJ5_appendNull_278bc 5 = .ok (.iconst 4, 1) := by decide +kernel
theorem dJ5_appendNull_278bc_6 : decode cJ5_appendNull_278bc 6 = .ok (.iadd, 1) := by decide +kernel
theorem dJ5_appendNull_278bc_7 : decode cJ5_appendNull_278bc 7 = .ok (.invokevirtual 100, 3) := by decide +kernel
theorem dJ5_appendNull_278bc_10 : decode cJ5_appendNull_278bc 10 = .ok (.aload_n 0, 1) := by decide +kernel
theorem dJ5_appendNull_278bc_11 : decode cJ5_appendNull_278bc 11 = .ok (.getfield 79, 3) := by decide +kernel
theorem dJ5_appendNull_278bc_14 : decode cJ5_appendNull_278bc 14 = .ok (.istore_n 1, 1) := by decide +kernel
theorem dJ5_appendNull_278bc_15 : decode cJ5_appendNull_278bc 15 = .ok (.aload_n 0, 1) := by decide +kernel
theorem dJ5_appendNull_278bc_16 : decode cJ5_appendNull_278bc 16 = .ok (.getfield 15, 3) := by decide +kernel
theorem dJ5_appendNull_278bc_19 : decode cJ5_appendNull_278bc 19 = .ok (.astore_n 2, 1) := by decide +kernel
theorem dJ5_appendNull_278bc_20 : decode cJ5_appendNull_278bc 20 = .ok (.aload_n 0, 1) := by decide +kernel
theorem dJ5_appendNull_278bc_21 : decode cJ5_appendNull_278bc 21 = .ok (.invokevirtual 83, 3) := by decide +kernel
theorem dJ5_appendNull_278bc_24 : decode cJ5_appendNull_278bc 24 = .ok (.ifCond .eq 38, 3) := by decide +kernel
theorem dJ5_appendNull_278bc_27 : decode cJ5_appendNull_278bc 27 = .ok (.aload_n 2, 1) := by decide +kernel
theorem dJ5_appendNull_278bc_28 : decode cJ5_appendNull_278bc 28 = .ok (.iload_n 1, 1) := by decide +kernel
theorem dJ5_appendNull_278bc_29 : decode cJ5_appendNull_278bc 29 = .ok (.iinc 1 1, 3) := by decide +kernel
theorem dJ5_appendNull_278bc_32 : decode cJ5_appendNull_278bc 32 = .ok (.bipush 110, 2) := by decide +kernel
theorem dJ5_appendNull_278bc_34 : decode cJ5_appendNull_278bc 34 = .ok (.bastore, 1) := by decide +kernel
theorem dJ5_appendNull_278bc_35 : decode cJ5_appendNull_278bc 35 = .ok (.aload_n 2, 1) := by decide +kernel
theorem dJ5_appendNull_278bc_36 : decode cJ5_appendNull_278bc 36 = .ok (.iload_n 1, 1) := by decide +kernel
theorem dJ5_appendNull_278bc_37 : decode cJ5_appendNull_278bc 37 = .ok (.iinc 1 1, 3) := by decide +kernel
theorem dJ5_appendNull_278bc_40 : decode cJ5_appendNull_278bc 40 = .ok (.bipush 117, 2) := by decide +kernel
theorem dJ5_appendNull_278bc_42 : decode cJ5_appendNull_278bc 42 = .ok (.bastore, 1) := by decide +kernel
theorem dJ5_appendNull_278bc_43 : decode cJ5_appendNull_278bc 43 = .ok (.aload_n 2, 1) := by decide +kernel
theorem dJ5_appendNull_278bc_44 : decode cJ5_appendNull_278bc 44 = .ok (.iload_n 1, 1) := by decide +kernel
theorem dJ5_appendNull_278bc_45 : decode cJ5_appendNull_278bc 45 = .ok (.iinc 1 1, 3) := by decide +kernel
theorem dJ5_appendNull_278bc_48 : decode cJ5_appendNull_278bc 48 = .ok (.bipush 108, 2) := by decide +kernel
theorem dJ5_appendNull_278bc_50 : decode cJ5_appendNull_278bc 50 = .ok (.bastore, 1) := by decide +kernel
theorem dJ5_appendNull_278bc_51 : decode cJ5_appendNull_278bc 51 = .ok (.aload_n 2, 1) := by decide +kernel
theorem dJ5_appendNull_278bc_52 : decode cJ5_appendNull_278bc 52 = .ok (.iload_n 1, 1) := by decide +kernel
theorem dJ5_appendNull_278bc_53 : decode cJ5_appendNull_278bc 53 = .ok (.iinc 1 1, 3) := by decide +kernel
theorem dJ5_appendNull_278bc_56 : decode cJ5_appendNull_278bc 56 = .ok (.bipush 108, 2) := by decide +kernel
theorem dJ5_appendNull_278bc_58 : decode cJ5_appendNull_278bc 58 = .ok (.bastore, 1) := by decide +kernel
theorem dJ5_appendNull_278bc_59 : decode cJ5_appendNull_278bc 59 = .ok (.goto 17, 3) := by decide +kernel
theorem dJ5_appendNull_278bc_62 : decode cJ5_appendNull_278bc 62 = .ok (.aload_n 2, 1) := by decide +kernel
theorem dJ5_appendNull_278bc_63 : decode cJ5_appendNull_278bc 63 = .ok (.iload_n 1, 1) := by decide +kernel
theorem dJ5_appendNull_278bc_64 : decode cJ5_appendNull_278bc 64 = .ok (.bipush 110, 2) := by decide +kernel
theorem dJ5_appendNull_278bc_66 : decode cJ5_appendNull_278bc 66 = .ok (.bipush 117, 2) := by decide +kernel
theorem dJ5_appendNull_278bc_68 : decode cJ5_appendNull_278bc 68 = .ok (.bipush 108, 2) := by decide +kernel
theorem dJ5_appendNull_278bc_70 : decode cJ5_appendNull_278bc 70 = .ok (.bipush 108, 2) := by decide +kernel
theorem dJ5_appendNull_278bc_72 : decode cJ5_appendNull_278bc 72 = .ok (.invokestatic 226, 3) := by decide +kernel
theorem dJ5_appendNull_278bc_75 : decode cJ5_appendNull_278bc 75 = .ok (.istore_n 1, 1) := by decide +kernel
theorem dJ5_appendNull_278bc_76 : decode cJ5_appendNull_278bc 76 = .ok (.aload_n 0, 1) := by decide +kernel
theorem dJ5_appendNull_278bc_77 : decode cJ5_appendNull_278bc 77 = .ok (.iload_n 1, 1) := by decide +kernel
theorem dJ5_appendNull_278bc_78 : decode cJ5_appendNull_278bc 78 = .ok (.putfield 79, 3) := by decide +kernel
theorem dJ5_appendNull_278bc_81 : decode cJ5_appendNull_278bc 81 = .ok (.aload_n 0, 1) := by decide +kernel
theorem dJ5_appendNull_278bc_82 : decode cJ5_appendNull_278bc 82 = .ok (.areturn, 1) := by decide +kernel
theorem dJ5_append_c97b9_0 : decode cJ5_append_c97b9 0 = .ok (.aload_n 0, 1) := by decide +kernel
theorem dJ5_append_c97b9_1 : decode cJ5_append_c97b9 1 = .ok (.getfield 79, 3) := by decide +kernel
theorem dJ5_append_c97b9_4 : decode cJ5_append_c97b9 4 = .ok (.istore_n 2, 1) := by decide +kernel
theorem dJ5_append_c97b9_5 : decode cJ5_append_c97b9 5 = .ok (.iload_n 2, 1) := by decide +kernel
theorem dJ5_append_c97b9_6 : decode cJ5_append_c97b9 6 = .ok (.iload_n 1, 1) := by decide +kernel
theorem dJ5_append_c97b9_7 : decode cJ5_append_c97b9 7 = .ok (.invokestatic 245, 3) := by decide +kernel
theorem dJ5_append_c97b9_10 : decode cJ5_append_c97b9 10 = .ok (.iadd, 1) := by decide +kernel
theorem dJ5_append_c97b9_11 : decode cJ5_append_c97b9 11 = .ok (.istore_n 3, 1) := by decide +kernel
theorem dJ5_append_c97b9_12 : decode cJ5_append_c97b9 12 = .ok (.aload_n 0, 1) := by decide +kernel
theorem dJ5_append_c97b9_13 : decode cJ5_append_c97b9 13 = .ok (.iload_n 3, 1) := by decide +kernel
theorem dJ5_append_c97b9_14 : decode cJ5_append_c97b9 14 = .ok (.invokevirtual 100, 3) := by decide +kernel
theorem dJ5_append_c97b9_17 : decode cJ5_append_c97b9 17 = .ok (.aload_n 0, 1) := by decide +kernel
theorem dJ5_append_c97b9_18 : decode cJ5_append_c97b9 18 = .ok (.invokevirtual 83, 3) := by decide +kernel
theorem dJ5_append_c97b9_21 : decode cJ5_append_c97b9 21 = .ok (.ifCond .eq 16, 3) := by decide +kernel
theorem dJ5_append_c97b9_24 : decode cJ5_append_c97b9 24 = .ok (.iload_n 1, 1) := by decide +kernel
theorem dJ5_append_c97b9_25 : decode cJ5_append_c97b9 25 = .ok (.iload_n 3, 1) := by decide +kernel
theorem dJ5_append_c97b9_26 : decode cJ5_append_c97b9 26 = .ok (.aload_n 0, 1) := by decide +kernel
theorem dJ5_append_c97b9_27 : decode cJ5_append_c97b9 27 = .ok (.getfield 15, 3) := by decide +kernel
theorem dJ5_append_c97b9_30 : decode cJ5_append_c97b9 30 = .ok (.invokestatic 248, 3) := by decide +kernel
theorem dJ5_append_c97b9_33 : decode cJ5_append_c97b9 33 = .ok (.pop, 1) := by decide +kernel
theorem dJ5_append_c97b9_34 : decode cJ5_append_c97b9 34 = .ok (.goto 14, 3) := by decide +kernel
theorem dJ5_append_c97b9_37 : decode cJ5_append_c97b9 37 = .ok (.iload_n 1, 1) := by decide +kernel
theorem dJ5_append_c97b9_38 : decode cJ5_append_c97b9 38 = .ok (.iload_n 2, 1) := by decide +kernel
theorem dJ5_append_c97b9_39 : decode cJ5_append_c97b9 39 = .ok (.iload_n 3, 1) := by decide +kernel
theorem dJ5_append_c97b9_40 : decode cJ5_append_c97b9 40 = .ok (.aload_n 0, 1) := by decide +kernel
theorem dJ5_append_c97b9_41 : decode cJ5_append_c97b9 41 = .ok (.getfield 15, 3) := by decide +kernel
theorem dJ5_append_c97b9_44 : decode cJ5_append_c97b9 44 = .ok (.invokestatic 251, 3) := by decide +kernel
theorem dJ5_append_c97b9_47 : decode cJ5_append_c97b9 47 = .ok (.pop, 1) := by decide +kernel
theorem dJ5_append_c97b9_48 : decode cJ5_append_c97b9 48 = .ok (.aload_n 0, 1) := by decide +kernel
theorem dJ5_append_c97b9_49 : decode cJ5_append_c97b9 49 = .ok (.iload_n 3, 1) := by decide +kernel
theorem dJ5_append_c97b9_50 : decode cJ5_append_c97b9 50 = .ok (.putfield 79, 3) := by decide +kernel
theorem dJ5_append_c97b9_53 : decode cJ5_append_c97b9 53 = .ok (.aload_n 0, 1) := by decide +kernel
theorem dJ5_append_c97b9_54 : decode cJ5_append_c97b9 54 = .ok (.areturn, 1) := by decide +kernel
theorem dJ5_getValue_6d5f1_0 : decode cJ5_getValue_6d5f1 0 = .ok (.aload_n 0, 1) := by decide +kernel
theorem dJ5_getValue_6d5f1_1 : decode cJ5_getValue_6d5f1 1 = .ok (.getfield 15, 3) := by decide +kernel
theorem dJ5_getValue_6d5f1_4 : decode cJ5_getValue_6d5f1 4 = .ok (.areturn, 1) := by decide +kernel
theorem dJ5_isLatin1_aae02_0 : decode cJ5_isLatin1_aae02 0 = .ok (.getstatic 18, 3) := by decide +kernel
theorem dJ5_isLatin1_aae02_3 : decode cJ5_isLatin1_aae02 3 = .ok (.ifCond .eq 14, 3) := by decide +kernel
theorem dJ5_isLatin1_aae02_6 : decode cJ5_isLatin1_aae02 6 = .ok (.aload_n 0, 1) := by decide +kernel
theorem dJ5_isLatin1_aae02_7 : decode cJ5_isLatin1_aae02 7 = .ok (.getfield 22, 3) := by decide +kernel
theorem dJ5_isLatin1_aae02_10 : decode cJ5_isLatin1_aae02 10 = .ok (.ifCond .ne 7, 3) := by decide +kernel
theorem dJ5_isLatin1_aae02_13 : decode cJ5_isLatin1_aae02 13 = .ok (.iconst 1, 1) := by decide +kernel
theorem dJ5_isLatin1_aae02_14 : decode cJ5_isLatin1_aae02 14 = .ok (.goto 4, 3) := by decide +kernel
theorem dJ5_isLatin1_aae02_17 : decode cJ5_isLatin1_aae02 17 = .ok (.iconst 0, 1) := by decide +kernel
theorem dJ5_isLatin1_aae02_18 : decode cJ5_isLatin1_aae02 18 = .ok (.ireturn, 1) := by decide +kernel
theorem dJ5_inflateIfNeededFor_a7421_0 : decode cJ5_inflateIfNeededFor_a7421 0 = .ok (.getstatic 18, 3) := by decide +kernel
theorem dJ5_inflateIfNeededFor_a7421_3 : decode cJ5_inflateIfNeededFor_a7421 3 = .ok (.ifCond .eq 18, 3) := by decide +kernel
theorem dJ5_inflateIfNeededFor_a7421_6 : decode cJ5_inflateIfNeededFor_a7421 6 = .ok (.aload_n 0, 1) := by decide +kernel
theorem dJ5_inflateIfNeededFor_a7421_7 : decode cJ5_inflateIfNeededFor_a7421 7 = .ok (.getfield 22, 3) := by decide +kernel
theorem dJ5_inflateIfNeededFor_a7421_10 : decode cJ5_inflateIfNeededFor_a7421 10 = .ok (.aload_n 1, 1) := by decide +kernel
theorem dJ5_inflateIfNeededFor_a7421_11 : decode cJ5_inflateIfNeededFor_a7421 11 = .ok (.invokevirtual 40, 3) := by decide +kernel
theorem dJ5_inflateIfNeededFor_a7421_14 : decode cJ5_inflateIfNeededFor_a7421 14 = .ok (.if_icmp .eq 7, 3) := by decide +kernel
theorem dJ5_inflateIfNeededFor_a7421_17 : decode cJ5_inflateIfNeededFor_a7421 17 = .ok (.aload_n 0, 1) := by decide +kernel
theorem dJ5_inflateIfNeededFor_a7421_18 : decode cJ5_inflateIfNeededFor_a7421 18 = .ok (.invokevirtual 195, 3) := by decide +kernel
theorem dJ5_inflateIfNeededFor_a7421_21 : decode cJ5_inflateIfNeededFor_a7421 21 = .ok (.return_, 1) := by decide +kernel
theorem dJ5_putStringAt_47b60_0 : decode cJ5_putStringAt_47b60 0 = .ok (.aload_n 0, 1) := by decide +kernel
theorem dJ5_putStringAt_47b60_1 : decode cJ5_putStringAt_47b60 1 = .ok (.aload_n 2, 1) := by decide +kernel
theorem dJ5_putStringAt_47b60_2 : decode cJ5_putStringAt_47b60 2 = .ok (.invokevirtual 397, 3) := by decide +kernel
theorem dJ5_putStringAt_47b60_5 : decode cJ5_putStringAt_47b60 5 = .ok (.aload_n 2, 1) := by decide +kernel
theorem dJ5_putStringAt_47b60_6 : decode cJ5_putStringAt_47b60 6 = .ok (.aload_n 0, 1) := by decide +kernel
theorem dJ5_putStringAt_47b60_7 : decode cJ5_putStringAt_47b60 7 = .ok (.getfield 15, 3) := by decide +kernel
theorem dJ5_putStringAt_47b60_10 : decode cJ5_putStringAt_47b60 10 = .ok (.iload_n 1, 1) := by decide +kernel
theorem dJ5_putStringAt_47b60_11 : decode cJ5_putStringAt_47b60 11 = .ok (.aload_n 0, 1) := by decide +kernel
theorem dJ5_putStringAt_47b60_12 : decode cJ5_putStringAt_47b60 12 = .ok (.getfield 22, 3) := by decide +kernel
theorem dJ5_putStringAt_47b60_15 : decode cJ5_putStringAt_47b60 15 = .ok (.invokevirtual 399, 3) := by decide +kernel
theorem dJ5_putStringAt_47b60_18 : decode cJ5_putStringAt_47b60 18 = .ok (.return_, 1) := by decide +kernel
theorem dJ6_getChars_ba4f3_0 : decode cJ6_getChars_ba4f3 0 = .ok (.iload_n 1, 1) := by decide +kernel
theorem dJ6_getChars_ba4f3_1 : decode cJ6_getChars_ba4f3 1 = .ok (.istore 5, 2) := by decide +kernel
theorem dJ6_getChars_ba4f3_3 : decode cJ6_getChars_ba4f3 3 = .ok (.iload_n 0, 1) := by decide +kernel
theorem dJ6_getChars_ba4f3_4 : decode cJ6_getChars_ba4f3 4 = .ok (.ifCond .ge 7, 3) := by decide +kernel
theorem dJ6_getChars_ba4f3_7 : decode cJ6_getChars_ba4f3 7 = .ok (.iconst 1, 1) := by decide +kernel
theorem dJ6_getChars_ba4f3_8 : decode cJ6_getChars_ba4f3 8 = .ok (.goto 4, 3) := by decide +kernel
theorem dJ6_getChars_ba4f3_11 : decode cJ6_getChars_ba4f3 11 = .ok (.iconst 0, 1) := by decide +kernel
theorem dJ6_getChars_ba4f3_12 : decode cJ6_getChars_ba4f3 12 = .ok (.istore 6, 2) := by decide +kernel
theorem dJ6_getChars_ba4f3_14 : decode cJ6_getChars_ba4f3 14 = .ok (.iload 6, 2) := by decide +kernel
theorem dJ6_getChars_ba4f3_16 : decode cJ6_getChars_ba4f3 16 = .ok (.ifCond .ne 6, 3) := by decide +kernel
theorem dJ6_getChars_ba4f3_19 : decode cJ6_getChars_ba4f3 19 = .ok (.iload_n 0, 1) := by decide +kernel
theorem dJ6_getChars_ba4f3_20 : decode cJ6_getChars_ba4f3 20 = .ok (.ineg, 1) := by decide +kernel
theorem dJ6_getChars_ba4f3_21 : decode cJ6_getChars_ba4f3 21 = .ok (.istore_n 0, 1) := by decide +kernel
theorem dJ6_getChars_ba4f3_22 : decode cJ6_getChars_ba4f3 22 = .ok (.iload_n 0, 1) := by decide +kernel
theorem dJ6_getChars_ba4f3_23 : decode cJ6_getChars_ba4f3 23 = .ok (.bipush (-100), 2) := by decide +kernel
theorem dJ6_getChars_ba4f3_25 : decode cJ6_getChars_ba4f3 25 = .ok (.if_icmp .gt 47, 3) := by decide +kernel
theorem dJ6_getChars_ba4f3_28 : decode cJ6_getChars_ba4f3 28 = .ok (.iload_n 0, 1) := by decide +kernel
theorem dJ6_getChars_ba4f3_29 : decode cJ6_getChars_ba4f3 29 = .ok (.bipush 100, 2) := by decide +kernel
theorem dJ6_getChars_ba4f3_31 : decode cJ6_getChars_ba4f3 31 = .ok (.idiv, 1) := by decide +kernel
theorem dJ6_getChars_ba4f3_32 : decode cJ6_getChars_ba4f3 32 = .ok (.istore_n 3, 1) := by decide +kernel
theorem dJ6_getChars_ba4f3_33 : decode cJ6_getChars_ba4f3 33 = .ok (.iload_n 3, 1) := by decide +kernel
theorem dJ6_getChars_ba4f3_34 : decode cJ6_getChars_ba4f3 34 = .ok (.bipush 100, 2) := by decide +kernel
theorem dJ6_getChars_ba4f3_36 : decode cJ6_getChars_ba4f3 36 = .ok (.imul, 1) := by decide +kernel
theorem dJ6_getChars_ba4f3_37 : decode cJ6_getChars_ba4f3 37 = .ok (.iload_n 0, 1) := by decide +kernel
theorem dJ6_getChars_ba4f3_38 : decode cJ6_getChars_ba4f3 38 = .ok (.isub, 1) := by decide +kernel
theorem dJ6_getChars_ba4f3_39 : decode cJ6_getChars_ba4f3 39 = .ok (.istore 4, 2) := by decide +kernel
theorem dJ6_getChars_ba4f3_41 : decode cJ6_getChars_ba4f3 41 = .ok (.iload_n 3, 1) := by decide +kernel
theorem dJ6_getChars_ba4f3_42 : decode cJ6_getChars_ba4f3 42 = .ok (.istore_n 0, 1) := by decide +kernel
theorem dJ6_getChars_ba4f3_43 : decode cJ6_getChars_ba4f3 43 = .ok (.aload_n 2, 1) := by decide +kernel
theorem dJ6_getChars_ba4f3_44 : decode cJ6_getChars_ba4f3 44 = .ok (.iinc 5 (-1), 3) := by decide +kernel
theorem dJ6_getChars_ba4f3_47 : decode cJ6_getChars_ba4f3 47 = .ok (.iload 5, 2) := by decide +kernel
theorem dJ6_getChars_ba4f3_49 : decode cJ6_getChars_ba4f3 49 = .ok (.getstatic 83, 3) := by decide +kernel
theorem dJ6_getChars_ba4f3_52 : decode cJ6_getChars_ba4f3 52 = .ok (.iload 4, 2) := by decide +kernel
theorem dJ6_getChars_ba4f3_54 : decode cJ6_getChars_ba4f3 54 = .ok (.baload, 1) := by decide +kernel
theorem dJ6_getChars_ba4f3_55 : decode cJ6_getChars_ba4f3 55 = .ok (.bastore, 1) := by decide +kernel
theorem dJ6_getChars_ba4f3_56 : decode cJ6_getChars_ba4f3 56 = .ok (.aload_n 2, 1) := by decide +kernel
theorem dJ6_getChars_ba4f3_57 : decode cJ6_getChars_ba4f3 57 = .ok (.iinc 5 (-1), 3) := by decide +kernel
theorem dJ6_getChars_ba4f3_60 : decode cJ6_getChars_ba4f3 60 = .ok (.iload 5, 2) := by decide +kernel
theorem dJ6_getChars_ba4f3_62 : decode cJ6_getChars_ba4f3 62 = .ok (.getstatic 87, 3) := by decide +kernel
theorem dJ6_getChars_ba4f3_65 : decode cJ6_getChars_ba4f3 65 = .ok (.iload 4, 2) := by decide +kernel
theorem dJ6_getChars_ba4f3_67 : decode cJ6_getChars_ba4f3 67 = .ok (.baload, 1) := by decide +kernel
theorem dJ6_getChars_ba4f3_68 : decode cJ6_getChars_ba4f3 68 = .ok (.bastore, 1) := by decide +kernel
theorem dJ6_getChars_ba4f3_69 : decode cJ6_getChars_ba4f3 69 = .ok (.goto (-47), 3) := by decide +kernel
theorem dJ6_getChars_ba4f3_72 : decode cJ6_getChars_ba4f3 72 = .ok (.aload_n 2, 1) := by decide +kernel
theorem dJ6_getChars_ba4f3_73 : decode cJ6_getChars_ba4f3 73 = .ok (.iinc 5 (-1), 3) := by decide +kernel
theorem dJ6_getChars_ba4f3_76 : decode cJ6_getChars_ba4f3 76 = .ok (.iload 5, 2) := by decide +kernel
theorem dJ6_getChars_ba4f3_78 : decode cJ6_getChars_ba4f3 78 = .ok (.getstatic 83, 3) := by decide +kernel
theorem dJ6_getChars_ba4f3_81 : decode cJ6_getChars_ba4f3 81 = .ok (.iload_n 0, 1) := by decide +kernel
theorem dJ6_getChars_ba4f3_82 : decode cJ6_getChars_ba4f3 82 = .ok (.ineg, 1) := by decide +kernel
theorem dJ6_getChars_ba4f3_83 : decode cJ6_getChars_ba4f3 83 = .ok (.baload, 1) := by decide +kernel
theorem dJ6_getChars_ba4f3_84 : decode cJ6_getChars_ba4f3 84 = .ok (.bastore, 1) := by decide +kernel
theorem dJ6_getChars_ba4f3_85 : decode cJ6_getChars_ba4f3 85 = .ok (.iload_n 0, 1) := by decide +kernel
theorem dJ6_getChars_ba4f3_86 : decode cJ6_getChars_ba4f3 86 = .ok (.bipush (-9), 2) := by decide +kernel
theorem dJ6_getChars_ba4f3_88 : decode cJ6_getChars_ba4f3 88 = .ok (.if_icmp .ge 16, 3) := by decide +kernel
theorem dJ6_getChars_ba4f3_91 : decode cJ6_getChars_ba4f3 91 = .ok (.aload_n 2, 1) := by decide +kernel
theorem dJ6_getChars_ba4f3_92 : decode cJ6_getChars_ba4f3 92 = .ok (.iinc 5 (-1), 3) := by decide +kernel
theorem dJ6_getChars_ba4f3_95 : decode cJ6_getChars_ba4f3 95 = .ok (.iload 5, 2) := by decide +kernel
theorem dJ6_getChars_ba4f3_97 : decode cJ6_getChars_ba4f3 97 = .ok (.getstatic 87, 3) := by decide +kernel
theorem dJ6_getChars_ba4f3_100 : decode cJ6_getChars_ba4f3 100 = .ok (.iload_n 0, 1) := by decide +kernel
theorem dJ6_getChars_ba4f3_101 : decode cJ6_getChars_ba4f3 101 = .ok (.ineg, 1) := by decide +kernel
theorem dJ6_getChars_ba4f3_102 : decode cJ6_getChars_ba4f3 102 = .ok (.baload, 1) := by decide +kernel
theorem dJ6_getChars_ba4f3_103 : decode cJ6_getChars_ba4f3 103 = .ok (.bastore, 1) := by decide +kernel
theorem dJ6_getChars_ba4f3_104 : decode cJ6_getChars_ba4f3 104 = .ok (.iload 6, 2) := by decide +kernel
theorem dJ6_getChars_ba4f3_106 : decode cJ6_getChars_ba4f3 106 = .ok (.ifCond .eq 12, 3) := by decide +kernel
theorem dJ6_getChars_ba4f3_109 : decode cJ6_getChars_ba4f3 109 = .ok (.aload_n 2, 1) := by decide +kernel
theorem dJ6_getChars_ba4f3_110 : decode cJ6_getChars_ba4f3 110 = .ok (.iinc 5 (-1), 3) := by decide +kernel
theorem dJ6_getChars_ba4f3_113 : decode cJ6_getChars_ba4f3 113 = .ok (.iload 5, 2) := by decide +kernel
theorem dJ6_getChars_ba4f3_115 : decode cJ6_getChars_ba4f3 115 = .ok (.bipush 45, 2) := by decide +kernel
theorem dJ6_getChars_ba4f3_117 : decode cJ6_getChars_ba4f3 117 = .ok (.bastore, 1) := by decide +kernel
theorem dJ6_getChars_ba4f3_118 : decode cJ6_getChars_ba4f3 118 = .ok (.iload 5, 2) := by decide +kernel
theorem dJ6_getChars_ba4f3_120 : decode cJ6_getChars_ba4f3 120 = .ok (.ireturn, 1) := by decide +kernel
theorem dJ6_stringSize_0f7a4_0 : decode cJ6_stringSize_0f7a4 0 = .ok (.iconst 1, 1) := by decide +kernel
theorem dJ6_stringSize_0f7a4_1 : decode cJ6_stringSize_0f7a4 1 = .ok (.istore_n 1, 1) := by decide +kernel
theorem dJ6_stringSize_0f7a4_2 : decode cJ6_stringSize_0f7a4 2 = .ok (.iload_n 0, 1) := by decide +kernel
theorem dJ6_stringSize_0f7a4_3 : decode cJ6_stringSize_0f7a4 3 = .ok (.ifCond .lt 8, 3) := by decide +kernel
theorem dJ6_stringSize_0f7a4_6 : decode cJ6_stringSize_0f7a4 6 = .ok (.iconst 0, 1) := by decide +kernel
theorem dJ6_stringSize_0f7a4_7 : decode cJ6_stringSize_0f7a4 7 = .ok (.istore_n 1, 1) := by decide +kernel
theorem dJ6_stringSize_0f7a4_8 : decode cJ6_stringSize_0f7a4 8 = .ok (.iload_n 0, 1) := by decide +kernel
theorem dJ6_stringSize_0f7a4_9 : decode cJ6_stringSize_0f7a4 9 = .ok (.ineg, 1) := by decide +kernel
theorem dJ6_stringSize_0f7a4_10 : decode cJ6_stringSize_0f7a4 10 = .ok (.istore_n 0, 1) := by decide +kernel
theorem dJ6_stringSize_0f7a4_11 : decode cJ6_stringSize_0f7a4 11 = .ok (.bipush (-10), 2) := by decide +kernel
theorem dJ6_stringSize_0f7a4_13 : decode cJ6_stringSize_0f7a4 13 = .ok (.istore_n 2, 1) := by decide +kernel
theorem dJ6_stringSize_0f7a4_14 : decode cJ6_stringSize_0f7a4 14 = .ok (.iconst 1, 1) := by decide +kernel
theorem dJ6_stringSize_0f7a4_15 : decode cJ6_stringSize_0f7a4 15 = .ok (.istore_n 3, 1) := by decide +kernel
theorem dJ6_stringSize_0f7a4_16 : decode cJ6_stringSize_0f7a4 16 = .ok (.iload_n 3, 1) := by decide +kernel
theorem dJ6_stringSize_0f7a4_17 : decode cJ6_stringSize_0f7a4 17 = .ok (.bipush 10, 2) := by decide +kernel
theorem dJ6_stringSize_0f7a4_19 : decode cJ6_stringSize_0f7a4 19 = .ok (.if_icmp .ge 23, 3) := by decide +kernel
theorem dJ6_stringSize_0f7a4_22 : decode cJ6_stringSize_0f7a4 22 = .ok (.iload_n 0, 1) := by decide +kernel
theorem dJ6_stringSize_0f7a4_23 : decode cJ6_stringSize_0f7a4 23 = .ok (.iload_n 2, 1) := by decide +kernel
theorem dJ6_stringSize_0f7a4_24 : decode cJ6_stringSize_0f7a4 24 = .ok (.if_icmp .le 7, 3) := by decide +kernel
theorem dJ6_stringSize_0f7a4_27 : decode cJ6_stringSize_0f7a4 27 = .ok (.iload_n 3, 1) := by decide +kernel
theorem dJ6_stringSize_0f7a4_28 : decode cJ6_stringSize_0f7a4 28 = .ok (.iload_n 1, 1) := by decide +kernel
theorem dJ6_stringSize_0f7a4_29 : decode cJ6_stringSize_0f7a4 29 = .ok (.iadd, 1) := by decide +kernel
theorem dJ6_stringSize_0f7a4_30 : decode cJ6_stringSize_0f7a4 30 = .ok (.ireturn, 1) := by decide +kernel
theorem dJ6_stringSize_0f7a4_31 : decode cJ6_stringSize_0f7a4 31 = .ok (.bipush 10, 2) := by decide +kernel
theorem dJ6_stringSize_0f7a4_33 : decode cJ6_stringSize_0f7a4 33 = .ok (.iload_n 2, 1) := by decide +kernel
theorem dJ6_stringSize_0f7a4_34 : decode cJ6_stringSize_0f7a4 34 = .ok (.imul, 1) := by decide +kernel
theorem dJ6_stringSize_0f7a4_35 : decode cJ6_stringSize_0f7a4 35 = .ok (.istore_n 2, 1) := by decide +kernel
theorem dJ6_stringSize_0f7a4_36 : decode cJ6_stringSize_0f7a4 36 = .ok (.iinc 3 1, 3) := by decide +kernel
theorem dJ6_stringSize_0f7a4_39 : decode cJ6_stringSize_0f7a4 39 = .ok (.goto (-23), 3) := by decide +kernel
theorem dJ6_stringSize_0f7a4_42 : decode cJ6_stringSize_0f7a4 42 = .ok (.bipush 10, 2) := by decide +kernel
theorem dJ6_stringSize_0f7a4_44 : decode cJ6_stringSize_0f7a4 44 = .ok (.iload_n 1, 1) := by decide +kernel
theorem dJ6_stringSize_0f7a4_45 : decode cJ6_stringSize_0f7a4 45 = .ok (.iadd, 1) := by decide +kernel
theorem dJ6_stringSize_0f7a4_46 : decode cJ6_stringSize_0f7a4 46 = .ok (.ireturn, 1) := by decide +kernel
theorem dJ6_bitCount_0f7a4_0 : decode cJ6_bitCount_0f7a4 0 = .ok (.iload_n 0, 1) := by decide +kernel
theorem dJ6_bitCount_0f7a4_1 : decode cJ6_bitCount_0f7a4 1 = .ok (.iload_n 0, 1) := by decide +kernel
theorem dJ6_bitCount_0f7a4_2 : decode cJ6_bitCount_0f7a4 2 = .ok (.iconst 1, 1) := by decide +kernel
theorem dJ6_bitCount_0f7a4_3 : decode cJ6_bitCount_0f7a4 3 = .ok (.iushr, 1) := by decide +kernel
theorem dJ6_bitCount_0f7a4_4 : decode cJ6_bitCount_0f7a4 4 = .ok (.ldc_w 265, 3) := by decide +kernel
theorem dJ6_bitCount_0f7a4_7 : decode cJ6_bitCount_0f7a4 7 = .ok (.iand, 1) := by decide +kernel
theorem dJ6_bitCount_0f7a4_8 : decode cJ6_bitCount_0f7a4 8 = .ok (.isub, 1) := by decide +kernel
theorem dJ6_bitCount_0f7a4_9 : decode cJ6_bitCount_0f7a4 9 = .ok (.istore_n 0, 1) := by decide +kernel
theorem dJ6_bitCount_0f7a4_10 : decode cJ6_bitCount_0f7a4 10 = .ok (.iload_n 0, 1) := by decide +kernel
theorem dJ6_bitCount_0f7a4_11 : decode cJ6_bitCount_0f7a4 11 = .ok (.ldc_w 266, 3) := by decide +kernel
theorem dJ6_bitCount_0f7a4_14 : decode cJ6_bitCount_0f7a4 14 = .ok (.iand, 1) := by decide +kernel
theorem dJ6_bitCount_0f7a4_15 : decode cJ6_bitCount_0f7a4 15 = .ok (.iload_n 0, 1) := by decide +kernel
theorem dJ6_bitCount_0f7a4_16 : decode cJ6_bitCount_0f7a4 16 = .ok (.iconst 2, 1) := by decide +kernel
theorem dJ6_bitCount_0f7a4_17 : decode cJ6_bitCount_0f7a4 17 = .ok (.iushr, 1) := by decide +kernel
theorem dJ6_bitCount_0f7a4_18 : decode cJ6_bitCount_0f7a4 18 = .ok (.ldc_w 266, 3) := by decide +kernel
theorem dJ6_bitCount_0f7a4_21 : decode cJ6_bitCount_0f7a4 21 = .ok (.iand, 1) := by decide +kernel
theorem dJ6_bitCount_0f7a4_22 : decode cJ6_bitCount_0f7a4 22 = .ok (.iadd, 1) := by decide +kernel
theorem dJ6_bitCount_0f7a4_23 : decode cJ6_bitCount_0f7a4 23 = .ok (.istore_n 0, 1) := by decide +kernel
theorem dJ6_bitCount_0f7a4_24 : decode cJ6_bitCount_0f7a4 24 = .ok (.iload_n 0, 1) := by decide +kernel
theorem dJ6_bitCount_0f7a4_25 : decode cJ6_bitCount_0f7a4 25 = .ok (.iload_n 0, 1) := by decide +kernel
theorem dJ6_bitCount_0f7a4_26 : decode cJ6_bitCount_0f7a4 26 = .ok (.iconst 4, 1) := by decide +kernel
theorem dJ6_bitCount_0f7a4_27 : decode cJ6_bitCount_0f7a4 27 = .ok (.iushr, 1) := by decide +kernel
theorem dJ6_bitCount_0f7a4_28 : decode cJ6_bitCount_0f7a4 28 = .ok (.iadd, 1) := by decide +kernel
theorem dJ6_bitCount_0f7a4_29 : decode cJ6_bitCount_0f7a4 29 = .ok (.ldc_w 267, 3) := by decide +kernel
theorem dJ6_bitCount_0f7a4_32 : decode cJ6_bitCount_0f7a4 32 = .ok (.iand, 1) := by decide +kernel
theorem dJ6_bitCount_0f7a4_33 : decode cJ6_bitCount_0f7a4 33 = .ok (.istore_n 0, 1) := by decide +kernel
theorem dJ6_bitCount_0f7a4_34 : decode cJ6_bitCount_0f7a4 34 = .ok (.iload_n 0, 1) := by decide +kernel
theorem dJ6_bitCount_0f7a4_35 : decode cJ6_bitCount_0f7a4 35 = .ok (.iload_n 0, 1) := by decide +kernel
theorem dJ6_bitCount_0f7a4_36 : decode cJ6_bitCount_0f7a4 36 = .ok (.bipush 8, 2) := by decide +kernel
theorem dJ6_bitCount_0f7a4_38 : decode cJ6_bitCount_0f7a4 38 = .ok (.iushr, 1) := by decide +kernel
theorem dJ6_bitCount_0f7a4_39 : decode cJ6_bitCount_0f7a4 39 = .ok (.iadd, 1) := by decide +kernel
theorem dJ6_bitCount_0f7a4_40 : decode cJ6_bitCount_0f7a4 40 = .ok (.istore_n 0, 1) := by decide +kernel
theorem dJ6_bitCount_0f7a4_41 : decode cJ6_bitCount_0f7a4 41 = .ok (.iload_n 0, 1) := by decide +kernel
theorem dJ6_bitCount_0f7a4_42 : decode cJ6_bitCount_0f7a4 42 = .ok (.iload_n 0, 1) := by decide +kernel
theorem dJ6_bitCount_0f7a4_43 : decode cJ6_bitCount_0f7a4 43 = .ok (.bipush 16, 2) := by decide +kernel
theorem dJ6_bitCount_0f7a4_45 : decode cJ6_bitCount_0f7a4 45 = .ok (.iushr, 1) := by decide +kernel
theorem dJ6_bitCount_0f7a4_46 : decode cJ6_bitCount_0f7a4 46 = .ok (.iadd, 1) := by decide +kernel
theorem dJ6_bitCount_0f7a4_47 : decode cJ6_bitCount_0f7a4 47 = .ok (.istore_n 0, 1) := by decide +kernel
theorem dJ6_bitCount_0f7a4_48 : decode cJ6_bitCount_0f7a4 48 = .ok (.iload_n 0, 1) := by decide +kernel
theorem dJ6_bitCount_0f7a4_49 : decode cJ6_bitCount_0f7a4 49 = .ok (.bipush 63, 2) := by decide +kernel
theorem dJ6_bitCount_0f7a4_51 : decode cJ6_bitCount_0f7a4 51 = .ok (.iand, 1) := by decide +kernel
theorem dJ6_bitCount_0f7a4_52 : decode cJ6_bitCount_0f7a4 52 = .ok (.ireturn, 1) := by decide +kernel
theorem dJ13_bitCount_95d88_0 : decode cJ13_bitCount_95d88 0 = .ok (.lload_n 0, 1) := by decide +kernel
theorem dJ13_bitCount_95d88_1 : decode cJ13_bitCount_95d88 1 = .ok (.lload_n 0, 1) := by decide +kernel
theorem dJ13_bitCount_95d88_2 : decode cJ13_bitCount_95d88 2 = .ok (.iconst 1, 1) := by decide +kernel
theorem dJ13_bitCount_95d88_3 : decode cJ13_bitCount_95d88 3 = .ok (.lushr, 1) := by decide +kernel
theorem dJ13_bitCount_95d88_4 : decode cJ13_bitCount_95d88 4 = .ok (.ldc2_w 314, 3) := by decide +kernel
theorem dJ13_bitCount_95d88_7 : decode cJ13_bitCount_95d88 7 = .ok (.land, 1) := by decide +kernel
theorem dJ13_bitCount_95d88_8 : decode cJ13_bitCount_95d88 8 = .ok (.lsub, 1) := by decide +kernel
theorem dJ13_bitCount_95d88_9 : decode cJ13_bitCount_95d88 9 = .ok (.lstore_n 0, 1) := by decide +kernel
theorem dJ13_bitCount_95d88_10 : decode cJ13_bitCount_95d88 10 = .ok (.lload_n 0, 1) := by decide +kernel
theorem dJ13_bitCount_95d88_11 : decode cJ13_bitCount_95d88 11 = .ok (.ldc2_w 316, 3) := by decide +kernel
theorem dJ13_bitCount_95d88_14 : decode cJ13_bitCount_95d88 14 = .ok (.land, 1) := by decide +kernel
theorem dJ13_bitCount_95d88_15 : decode cJ13_bitCount_95d88 15 = .ok (.lload_n 0, 1) := by decide +kernel
theorem dJ13_bitCount_95d88_16 : decode cJ13_bitCount_95d88 16 = .ok (.iconst 2, 1) := by decide +kernel
theorem dJ13_bitCount_95d88_17 : decode cJ13_bitCount_95d88 17 = .ok (.lushr, 1) := by decide +kernel
theorem dJ13_bitCount_95d88_18 : decode cJ13_bitCount_95d88 18 = .ok (.ldc2_w 316, 3) := by decide +kernel
theorem dJ13_bitCount_95d88_21 : decode cJ13_bitCount_95d88 21 = .ok (.land, 1) := by decide +kernel
theorem dJ13_bitCount_95d88_22 : decode cJ13_bitCount_95d88 22 = .ok (.ladd, 1) := by decide +kernel
theorem dJ13_bitCount_95d88_23 : decode cJ13_bitCount_95d88 23 = .ok (.lstore_n 0, 1) := by decide +kernel
theorem dJ13_bitCount_95d88_24 : decode cJ13_bitCount_95d88 24 = .ok (.lload_n 0, 1) := by decide +kernel
theorem dJ13_bitCount_95d88_25 : decode cJ13_bitCount_95d88 25 = .ok (.lload_n 0, 1) := by decide +kernel
theorem dJ13_bitCount_95d88_26 : decode cJ13_bitCount_95d88 26 = .ok (.iconst 4, 1) := by decide +kernel
theorem dJ13_bitCount_95d88_27 : decode cJ13_bitCount_95d88 27 = .ok (.lushr, 1) := by decide +kernel
theorem dJ13_bitCount_95d88_28 : decode cJ13_bitCount_95d88 28 = .ok (.ladd, 1) := by decide +kernel
theorem dJ13_bitCount_95d88_29 : decode cJ13_bitCount_95d88 29 = .ok (.ldc2_w 318, 3) := by decide +kernel
theorem dJ13_bitCount_95d88_32 : decode cJ13_bitCount_95d88 32 = .ok (.land, 1) := by decide +kernel
theorem dJ13_bitCount_95d88_33 : decode cJ13_bitCount_95d88 33 = .ok (.lstore_n 0, 1) := by decide +kernel
theorem dJ13_bitCount_95d88_34 : decode cJ13_bitCount_95d88 34 = .ok (.lload_n 0, 1) := by decide +kernel
theorem dJ13_bitCount_95d88_35 : decode cJ13_bitCount_95d88 35 = .ok (.lload_n 0, 1) := by decide +kernel
theorem dJ13_bitCount_95d88_36 : decode cJ13_bitCount_95d88 36 = .ok (.bipush 8, 2) := by decide +kernel
theorem dJ13_bitCount_95d88_38 : decode cJ13_bitCount_95d88 38 = .ok (.lushr, 1) := by decide +kernel
theorem dJ13_bitCount_95d88_39 : decode cJ13_bitCount_95d88 39 = .ok (.ladd, 1) := by decide +kernel
theorem dJ13_bitCount_95d88_40 : decode cJ13_bitCount_95d88 40 = .ok (.lstore_n 0, 1) := by decide +kernel
theorem dJ13_bitCount_95d88_41 : decode cJ13_bitCount_95d88 41 = .ok (.lload_n 0, 1) := by decide +kernel
theorem dJ13_bitCount_95d88_42 : decode cJ13_bitCount_95d88 42 = .ok (.lload_n 0, 1) := by decide +kernel
theorem dJ13_bitCount_95d88_43 : decode cJ13_bitCount_95d88 43 = .ok (.bipush 16, 2) := by decide +kernel
theorem dJ13_bitCount_95d88_45 : decode cJ13_bitCount_95d88 45 = .ok (.lushr, 1) := by decide +kernel
theorem dJ13_bitCount_95d88_46 : decode cJ13_bitCount_95d88 46 = .ok (.ladd, 1) := by decide +kernel
theorem dJ13_bitCount_95d88_47 : decode cJ13_bitCount_95d88 47 = .ok (.lstore_n 0, 1) := by decide +kernel
theorem dJ13_bitCount_95d88_48 : decode cJ13_bitCount_95d88 48 = .ok (.lload_n 0, 1) := by decide +kernel
theorem dJ13_bitCount_95d88_49 : decode cJ13_bitCount_95d88 49 = .ok (.lload_n 0, 1) := by decide +kernel
theorem dJ13_bitCount_95d88_50 : decode cJ13_bitCount_95d88 50 = .ok (.bipush 32, 2) := by decide +kernel
theorem dJ13_bitCount_95d88_52 : decode cJ13_bitCount_95d88 52 = .ok (.lushr, 1) := by decide +kernel
theorem dJ13_bitCount_95d88_53 : decode cJ13_bitCount_95d88 53 = .ok (.ladd, 1) := by decide +kernel
theorem dJ13_bitCount_95d88_54 : decode cJ13_bitCount_95d88 54 = .ok (.lstore_n 0, 1) := by decide +kernel
theorem dJ13_bitCount_95d88_55 : decode cJ13_bitCount_95d88 55 = .ok (.lload_n 0, 1) := by decide +kernel
theorem dJ13_bitCount_95d88_56 : decode cJ13_bitCount_95d88 56 = .ok (.l2i, 1) := by decide +kernel
theorem dJ13_bitCount_95d88_57 : decode cJ13_bitCount_95d88 57 = .ok (.bipush 127, 2) := by decide +kernel
theorem dJ13_bitCount_95d88_59 : decode cJ13_bitCount_95d88 59 = .ok (.iand, 1) := by decide +kernel
theorem dJ13_bitCount_95d88_60 : decode cJ13_bitCount_95d88 60 = .ok (.ireturn, 1) := by decide +kernel
theorem dJ9_floorMod_7cf53_0 : decode cJ9_floorMod_7cf53 0 = .ok (.iload_n 0, 1) := by decide +kernel
theorem dJ9_floorMod_7cf53_1 : decode cJ9_floorMod_7cf53 1 = .ok (.iload_n 1, 1) := by decide +kernel
theorem dJ9_floorMod_7cf53_2 : decode cJ9_floorMod_7cf53 2 = .ok (.irem, 1) := by decide +kernel
theorem dJ9_floorMod_7cf53_3 : decode cJ9_floorMod_7cf53 3 = .ok (.istore_n 2, 1) := by decide +kernel
theorem dJ9_floorMod_7cf53_4 : decode cJ9_floorMod_7cf53 4 = .ok (.iload_n 0, 1) := by decide +kernel
theorem dJ9_floorMod_7cf53_5 : decode cJ9_floorMod_7cf53 5 = .ok (.iload_n 1, 1) := by decide +kernel
theorem dJ9_floorMod_7cf53_6 : decode cJ9_floorMod_7cf53 6 = .ok (.ixor, 1) := by decide +kernel
theorem dJ9_floorMod_7cf53_7 : decode cJ9_floorMod_7cf53 7 = .ok (.ifCond .ge 11, 3) := by decide +kernel
theorem dJ9_floorMod_7cf53_10 : decode cJ9_floorMod_7cf53 10 = .ok (.iload_n 2, 1) := by decide +kernel
theorem dJ9_floorMod_7cf53_11 : decode cJ9_floorMod_7cf53 11 = .ok (.ifCond .eq 7, 3) := by decide +kernel
theorem dJ9_floorMod_7cf53_14 : decode cJ9_floorMod_7cf53 14 = .ok (.iload_n 2, 1) := by decide +kernel
theorem dJ9_floorMod_7cf53_15 : decode cJ9_floorMod_7cf53 15 = .ok (.iload_n 1, 1) := by decide +kernel
theorem dJ9_floorMod_7cf53_16 : decode cJ9_floorMod_7cf53 16 = .ok (.iadd, 1) := by decide +kernel
theorem dJ9_floorMod_7cf53_17 : decode cJ9_floorMod_7cf53 17 = .ok (.ireturn, 1) := by decide +kernel
theorem dJ9_floorMod_7cf53_18 : decode cJ9_floorMod_7cf53 18 = .ok (.iload_n 2, 1) := by decide +kernel
theorem dJ9_floorMod_7cf53_19 : decode cJ9_floorMod_7cf53 19 = .ok (.ireturn, 1) := by decide +kernel
theorem dJ9_max_7cf53_0 : decode cJ9_max_7cf53 0 = .ok (.iload_n 0, 1) := by decide +kernel
theorem dJ9_max_7cf53_1 : decode cJ9_max_7cf53 1 = .ok (.iload_n 1, 1) := by decide +kernel
theorem dJ9_max_7cf53_2 : decode cJ9_max_7cf53 2 = .ok (.if_icmp .lt 7, 3) := by decide +kernel
theorem dJ9_max_7cf53_5 : decode cJ9_max_7cf53 5 = .ok (.iload_n 0, 1) := by decide +kernel
theorem dJ9_max_7cf53_6 : decode cJ9_max_7cf53 6 = .ok (.goto 4, 3) := by decide +kernel
theorem dJ9_max_7cf53_9 : decode cJ9_max_7cf53 9 = .ok (.iload_n 1, 1) := by decide +kernel
theorem dJ9_max_7cf53_10 : decode cJ9_max_7cf53 10 = .ok (.ireturn, 1) := by decide +kernel
theorem dJ9_max_f86c9_0 : decode cJ9_max_f86c9 0 = .ok (.lload_n 0, 1) := by decide +kernel
theorem dJ9_max_f86c9_1 : decode cJ9_max_f86c9 1 = .ok (.lload_n 2, 1) := by decide +kernel
theorem dJ9_max_f86c9_2 : decode cJ9_max_f86c9 2 = .ok (.lcmp, 1) := by decide +kernel
theorem dJ9_max_f86c9_3 : decode cJ9_max_f86c9 3 = .ok (.ifCond .lt 7, 3) := by decide +kernel
theorem dJ9_max_f86c9_6 : decode cJ9_max_f86c9 6 = .ok (.lload_n 0, 1) := by decide +kernel
theorem dJ9_max_f86c9_7 : decode cJ9_max_f86c9 7 = .ok (.goto 4, 3) := by decide +kernel
theorem dJ9_max_f86c9_10 : decode cJ9_max_f86c9 10 = .ok (.lload_n 2, 1) := by decide +kernel
theorem dJ9_max_f86c9_11 : decode cJ9_max_f86c9 11 = .ok (.lreturn, 1) := by decide +kernel
theorem dJ9_min_7cf53_0 : decode cJ9_min_7cf53 0 = .ok (.iload_n 0, 1) := by decide +kernel
theorem dJ9_min_7cf53_1 : decode cJ9_min_7cf53 1 = .ok (.iload_n 1, 1) := by decide +kernel
theorem dJ9_min_7cf53_2 : decode cJ9_min_7cf53 2 = .ok (.if_icmp .gt 7, 3) := by decide +kernel
theorem dJ9_min_7cf53_5 : decode cJ9_min_7cf53 5 = .ok (.iload_n 0, 1) := by decide +kernel
theorem dJ9_min_7cf53_6 : decode cJ9_min_7cf53 6 = .ok (.goto 4, 3) := by decide +kernel
theorem dJ9_min_7cf53_9 : decode cJ9_min_7cf53 9 = .ok (.iload_n 1, 1) := by decide +kernel
theorem dJ9_min_7cf53_10 : decode cJ9_min_7cf53 10 = .ok (.ireturn, 1) := by decide +kernel
theorem dJ9_min_f86c9_0 : decode cJ9_min_f86c9 0 = .ok (.lload_n 0, 1) := by decide +kernel
theorem dJ9_min_f86c9_1 : decode cJ9_min_f86c9 1 = .ok (.lload_n 2, 1) := by decide +kernel
theorem dJ9_min_f86c9_2 : decode cJ9_min_f86c9 2 = .ok (.lcmp, 1) := by decide +kernel
theorem dJ9_min_f86c9_3 : decode cJ9_min_f86c9 3 = .ok (.ifCond .gt 7, 3) := by decide +kernel
theorem dJ9_min_f86c9_6 : decode cJ9_min_f86c9 6 = .ok (.lload_n 0, 1) := by decide +kernel
theorem dJ9_min_f86c9_7 : decode cJ9_min_f86c9 7 = .ok (.goto 4, 3) := by decide +kernel
theorem dJ9_min_f86c9_10 : decode cJ9_min_f86c9 10 = .ok (.lload_n 2, 1) := by decide +kernel
theorem dJ9_min_f86c9_11 : decode cJ9_min_f86c9 11 = .ok (.lreturn, 1) := by decide +kernel
theorem dJ0_init_81219_0 : decode cJ0_init_81219 0 = .ok (.aload_n 0, 1) := by decide +kernel
theorem dJ0_init_81219_1 : decode cJ0_init_81219 1 = .ok (.aload_n 1, 1) := by decide +kernel
theorem dJ0_init_81219_2 : decode cJ0_init_81219 2 = .ok (.aconst_null, 1) := by decide +kernel
theorem dJ0_init_81219_3 : decode cJ0_init_81219 3 = .ok (.invokespecial 489, 3) := by decide +kernel
theorem dJ0_init_81219_6 : decode cJ0_init_81219 6 = .ok (.return_, 1) := by decide +kernel
theorem dJ0_length_8abf5_0 : decode cJ0_length_8abf5 0 = .ok (.aload_n 0, 1) := by decide +kernel
theorem dJ0_length_8abf5_1 : decode cJ0_length_8abf5 1 = .ok (.getfield 9, 3) := by decide +kernel
theorem dJ0_length_8abf5_4 : decode cJ0_length_8abf5 4 = .ok (.arraylength, 1) := by decide +kernel
theorem dJ0_length_8abf5_5 : decode cJ0_length_8abf5 5 = .ok (.aload_n 0, 1) := by decide +kernel
theorem dJ0_length_8abf5_6 : decode cJ0_length_8abf5 6 = .ok (.invokevirtual 335, 3) := by decide +kernel
theorem dJ0_length_8abf5_9 : decode cJ0_length_8abf5 9 = .ok (.ishr, 1) := by decide +kernel
theorem dJ0_length_8abf5_10 : decode cJ0_length_8abf5 10 = .ok (.ireturn, 1) := by decide +kernel
theorem dJ0_charAt_5068e_0 : decode cJ0_charAt_5068e 0 = .ok (.aload_n 0, 1) := by decide +kernel
theorem dJ0_charAt_5068e_1 : decode cJ0_charAt_5068e 1 = .ok (.invokevirtual 492, 3) := by decide +kernel
theorem dJ0_charAt_5068e_4 : decode cJ0_charAt_5068e 4 = .ok (.ifCond .eq 12, 3) := by decide +kernel
theorem dJ0_charAt_5068e_7 : decode cJ0_charAt_5068e 7 = .ok (.aload_n 0, 1) := by decide +kernel
theorem dJ0_charAt_5068e_8 : decode cJ0_charAt_5068e 8 = .ok (.getfield 9, 3) := by decide +kernel
theorem dJ0_charAt_5068e_11 : decode cJ0_charAt_5068e 11 = .ok (.iload_n 1, 1) := by decide +kernel
theorem dJ0_charAt_5068e_12 : decode cJ0_charAt_5068e 12 = .ok (.invokestatic 495, 3) := by decide +kernel
theorem dJ0_charAt_5068e_15 : decode cJ0_charAt_5068e 15 = .ok (.ireturn, 1) := by decide +kernel
theorem dJ0_charAt_5068e_16 : decode cJ0_charAt_5068e 16 = .ok (.aload_n 0, 1) := by decide +kernel
theorem dJ0_charAt_5068e_17 : decode cJ0_charAt_5068e 17 = .ok (.getfield 9, 3) := by decide +kernel
theorem dJ0_charAt_5068e_20 : decode cJ0_charAt_5068e 20 = .ok (.iload_n 1, 1) := by decide +kernel
theorem dJ0_charAt_5068e_21 : decode cJ0_charAt_5068e 21 = .ok (.invokestatic 498, 3) := by decide +kernel
theorem dJ0_charAt_5068e_24 : decode cJ0_charAt_5068e 24 = .ok (.ireturn, 1) := by decide +kernel
theorem dJ0_getBytes_840e7_0 : decode cJ0_getBytes_840e7 0 = .ok (.aload_n 0, 1) := by decide +kernel
theorem dJ0_getBytes_840e7_1 : decode cJ0_getBytes_840e7 1 = .ok (.invokevirtual 335, 3) := by decide +kernel
theorem dJ0_getBytes_840e7_4 : decode cJ0_getBytes_840e7 4 = .ok (.iload_n 3, 1) := by decide +kernel
theorem dJ0_getBytes_840e7_5 : decode cJ0_getBytes_840e7 5 = .ok (.if_icmp .ne 23, 3) := by decide +kernel
theorem dJ0_getBytes_840e7_8 : decode cJ0_getBytes_840e7 8 = .ok (.aload_n 0, 1) := by decide +kernel
theorem dJ0_getBytes_840e7_9 : decode cJ0_getBytes_840e7 9 = .ok (.getfield 9, 3) := by decide +kernel
theorem dJ0_getBytes_840e7_12 : decode cJ0_getBytes_840e7 12 = .ok (.iconst 0, 1) := by decide +kernel
theorem dJ0_getBytes_840e7_13 : decode cJ0_getBytes_840e7 13 = .ok (.aload_n 1, 1) := by decide +kernel
theorem dJ0_getBytes_840e7_14 : decode cJ0_getBytes_840e7 14 = .ok (.iload_n 2, 1) := by decide +kernel
theorem dJ0_getBytes_840e7_15 : decode cJ0_getBytes_840e7 15 = .ok (.iload_n 3, 1) := by decide +kernel
theorem dJ0_getBytes_840e7_16 : decode cJ0_getBytes_840e7 16 = .ok (.ishl, 1) := by decide +kernel
theorem dJ0_getBytes_840e7_17 : decode cJ0_getBytes_840e7 17 = .ok (.aload_n 0, 1) := by decide +kernel
theorem dJ0_getBytes_840e7_18 : decode cJ0_getBytes_840e7 18 = .ok (.getfield 9, 3) := by decide +kernel
theorem dJ0_getBytes_840e7_21 : decode cJ0_getBytes_840e7 21 = .ok (.arraylength, 1) := by decide +kernel
theorem dJ0_getBytes_840e7_22 : decode cJ0_getBytes_840e7 22 = .ok (.invokestatic 212, 3) := by decide +kernel
theorem dJ0_getBytes_840e7_25 : decode cJ0_getBytes_840e7 25 = .ok (.goto 18, 3) := by decide +kernel
theorem dJ0_getBytes_840e7_28 : decode cJ0_getBytes_840e7 28 = .ok (.aload_n 0, 1) := by decide +kernel
theorem dJ0_getBytes_840e7_29 : decode cJ0_getBytes_840e7 29 = .ok (.getfield 9, 3) := by decide +kernel
theorem dJ0_getBytes_840e7_32 : decode cJ0_getBytes_840e7 32 = .ok (.iconst 0, 1) := by decide +kernel
theorem dJ0_getBytes_840e7_33 : decode cJ0_getBytes_840e7 33 = .ok (.aload_n 1, 1) := by decide +kernel
theorem dJ0_getBytes_840e7_34 : decode cJ0_getBytes_840e7 34 = .ok (.iload_n 2, 1) := by decide +kernel
theorem dJ0_getBytes_840e7_35 : decode cJ0_getBytes_840e7 35 = .ok (.aload_n 0, 1) := by decide +kernel
theorem dJ0_getBytes_840e7_36 : decode cJ0_getBytes_840e7 36 = .ok (.getfield 9, 3) := by decide +kernel
theorem dJ0_getBytes_840e7_39 : decode cJ0_getBytes_840e7 39 = .ok (.arraylength, 1) := by decide +kernel
theorem dJ0_getBytes_840e7_40 : decode cJ0_getBytes_840e7 40 = .ok (.invokestatic 106, 3) := by decide +kernel
theorem dJ0_getBytes_840e7_43 : decode cJ0_getBytes_840e7 43 = .ok (.return_, 1) := by decide +kernel
theorem dJ0_init_db425_0 : decode cJ0_init_db425 0 = .ok (.aload_n 0, 1) := by decide +kernel
theorem dJ0_init_db425_1 : decode cJ0_init_db425 1 = .ok (.invokespecial 1, 3) := by decide +kernel
theorem dJ0_init_db425_4 : decode cJ0_init_db425 4 = .ok (.aload_n 1, 1) := by decide +kernel
theorem dJ0_init_db425_5 : decode cJ0_init_db425 5 = .ok (.invokevirtual 552, 3) := by decide +kernel
theorem dJ0_init_db425_8 : decode cJ0_init_db425 8 = .ok (.astore_n 3, 1) := by decide +kernel
theorem dJ0_init_db425_9 : decode cJ0_init_db425 9 = .ok (.aload_n 1, 1) := by decide +kernel
theorem dJ0_init_db425_10 : decode cJ0_init_db425 10 = .ok (.invokevirtual 549, 3) := by decide +kernel
theorem dJ0_init_db425_13 : decode cJ0_init_db425 13 = .ok (.istore 4, 2) := by decide +kernel
theorem dJ0_init_db425_15 : decode cJ0_init_db425 15 = .ok (.aload_n 1, 1) := by decide +kernel
theorem dJ0_init_db425_16 : decode cJ0_init_db425 16 = .ok (.invokevirtual 1047, 3) := by decide +kernel
theorem dJ0_init_db425_19 : decode cJ0_init_db425 19 = .ok (.ifCond .eq 22, 3) := by decide +kernel
theorem dJ0_init_db425_22 : decode cJ0_init_db425 22 = .ok (.aload_n 0, 1) := by decide +kernel
theorem dJ0_init_db425_23 : decode cJ0_init_db425 23 = .ok (.iconst 0, 1) := by decide +kernel
theorem dJ0_init_db425_24 : decode cJ0_init_db425 24 = .ok (.putfield 15, 3) := by decide +kernel
theorem dJ0_init_db425_27 : decode cJ0_init_db425 27 = .ok (.aload_n 0, 1) := by decide +kernel
theorem dJ0_init_db425_28 : decode cJ0_init_db425 28 = .ok (.aload_n 3, 1) := by decide +kernel
theorem dJ0_init_db425_29 : decode cJ0_init_db425 29 = .ok (.iconst 0, 1) := by decide +kernel
theorem dJ0_init_db425_30 : decode cJ0_init_db425 30 = .ok (.iload 4, 2) := by decide +kernel
theorem dJ0_init_db425_32 : decode cJ0_init_db425 32 = .ok (.invokestatic 54, 3) := by decide +kernel
theorem dJ0_init_db425_35 : decode cJ0_init_db425 35 = .ok (.putfield 9, 3) := by decide +kernel
theorem dJ0_init_db425_38 : decode cJ0_init_db425 38 = .ok (.goto 59, 3) := by decide +kernel
theorem dJ0_init_db425_41 : decode cJ0_init_db425 41 = .ok (.getstatic 38, 3) := by decide +kernel
theorem dJ0_init_db425_44 : decode cJ0_init_db425 44 = .ok (.ifCond .eq 35, 3) := by decide +kernel
theorem dJ0_init_db425_47 : decode cJ0_init_db425 47 = .ok (.aload_n 1, 1) := by decide +kernel
theorem dJ0_init_db425_48 : decode cJ0_init_db425 48 = .ok (.getfield 1048, 3) := by decide +kernel
theorem dJ0_init_db425_51 : decode cJ0_init_db425 51 = .ok (.ifCond .eq 28, 3) := by decide +kernel
theorem dJ0_init_db425_54 : decode cJ0_init_db425 54 = .ok (.aload_n 0, 1) := by decide +kernel
theorem dJ0_init_db425_55 : decode cJ0_init_db425 55 = .ok (.aload_n 3, 1) := by decide +kernel
theorem dJ0_init_db425_56 : decode cJ0_init_db425 56 = .ok (.iconst 0, 1) := by decide +kernel
theorem dJ0_init_db425_57 : decode cJ0_init_db425 57 = .ok (.iload 4, 2) := by decide +kernel
theorem dJ0_init_db425_59 : decode cJ0_init_db425 59 = .ok (.invokestatic 1051, 3) := by decide +kernel
theorem dJ0_init_db425_62 : decode cJ0_init_db425 62 = .ok (.putfield 9, 3) := by decide +kernel
theorem dJ0_init_db425_65 : decode cJ0_init_db425 65 = .ok (.aload_n 0, 1) := by decide +kernel
theorem dJ0_init_db425_66 : decode cJ0_init_db425 66 = .ok (.aload_n 0, 1) := by decide +kernel
theorem dJ0_init_db425_67 : decode cJ0_init_db425 67 = .ok (.getfield 9, 3) := by decide +kernel
theorem dJ0_init_db425_70 : decode cJ0_init_db425 70 = .ok (.iload 4, 2) := by decide +kernel
theorem dJ0_init_db425_72 : decode cJ0_init_db425 72 = .ok (.invokestatic 47, 3) := by decide +kernel
theorem dJ0_init_db425_75 : decode cJ0_init_db425 75 = .ok (.putfield 15, 3) := by decide +kernel
theorem dJ0_init_db425_78 : decode cJ0_init_db425 78 = .ok (.return_, 1) := by decide +kernel
theorem dJ0_init_db425_79 : decode cJ0_init_db425 79 = .ok (.aload_n 0, 1) := by decide +kernel
theorem dJ0_init_db425_80 : decode cJ0_init_db425 80 = .ok (.iconst 1, 1) := by decide +kernel
theorem dJ0_init_db425_81 : decode cJ0_init_db425 81 = .ok (.putfield 15, 3) := by decide +kernel
theorem dJ0_init_db425_84 : decode cJ0_init_db425 84 = .ok (.aload_n 0, 1) := by decide +kernel
theorem dJ0_init_db425_85 : decode cJ0_init_db425 85 = .ok (.aload_n 3, 1) := by decide +kernel
theorem dJ0_init_db425_86 : decode cJ0_init_db425 86 = .ok (.iconst 0, 1) := by decide +kernel
theorem dJ0_init_db425_87 : decode cJ0_init_db425 87 = .ok (.iload 4, 2) := by decide +kernel
theorem dJ0_init_db425_89 : decode cJ0_init_db425 89 = .ok (.iconst 1, 1) := by decide +kernel
theorem dJ0_init_db425_90 : decode cJ0_init_db425 90 = .ok (.ishl, 1) := by decide +kernel
theorem dJ0_init_db425_91 : decode cJ0_init_db425 91 = .ok (.invokestatic 54, 3) := by decide +kernel
theorem dJ0_init_db425_94 : decode cJ0_init_db425 94 = .ok (.putfield 9, 3) := by decide +kernel
theorem dJ0_init_db425_97 : decode cJ0_init_db425 97 = .ok (.return_, 1) := by decide +kernel
theorem dJ0_coder_7d493_0 : decode cJ0_coder_7d493 0 = .ok (.getstatic 38, 3) := by decide +kernel
theorem dJ0_coder_7d493_3 : decode cJ0_coder_7d493 3 = .ok (.ifCond .eq 10, 3) := by decide +kernel
theorem dJ0_coder_7d493_6 : decode cJ0_coder_7d493 6 = .ok (.aload_n 0, 1) := by decide +kernel
theorem dJ0_coder_7d493_7 : decode cJ0_coder_7d493 7 = .ok (.getfield 15, 3) := by decide +kernel
theorem dJ0_coder_7d493_10 : decode cJ0_coder_7d493 10 = .ok (.goto 4, 3) := by decide +kernel
theorem dJ0_coder_7d493_13 : decode cJ0_coder_7d493 13 = .ok (.iconst 1, 1) := by decide +kernel
theorem dJ0_coder_7d493_14 : decode cJ0_coder_7d493 14 = .ok (.ireturn, 1) := by decide +kernel
theorem dJ0_isLatin1_aae02_0 : decode cJ0_isLatin1_aae02 0 = .ok (.getstatic 38, 3) := by decide +kernel
theorem dJ0_isLatin1_aae02_3 : decode cJ0_isLatin1_aae02 3 = .ok (.ifCond .eq 14, 3) := by decide +kernel
theorem dJ0_isLatin1_aae02_6 : decode cJ0_isLatin1_aae02 6 = .ok (.aload_n 0, 1) := by decide +kernel
theorem dJ0_isLatin1_aae02_7 : decode cJ0_isLatin1_aae02 7 = .ok (.getfield 15, 3) := by decide +kernel
theorem dJ0_isLatin1_aae02_10 : decode cJ0_isLatin1_aae02 10 = .ok (.ifCond .ne 7, 3) := by decide +kernel
theorem dJ0_isLatin1_aae02_13 : decode cJ0_isLatin1_aae02 13 = .ok (.iconst 1, 1) := by decide +kernel
theorem dJ0_isLatin1_aae02_14 : decode cJ0_isLatin1_aae02 14 = .ok (.goto 4, 3) := by decide +kernel
theorem dJ0_isLatin1_aae02_17 : decode cJ0_isLatin1_aae02 17 = .ok (.iconst 0, 1) := by decide +kernel
theorem dJ0_isLatin1_aae02_18 : decode cJ0_isLatin1_aae02 18 = .ok (.ireturn, 1) := by decide +kernel
theorem dJ0_checkIndex_df160_0 : decode cJ0_checkIndex_df160 0 = .ok (.iload_n 0, 1) := by decide +kernel
theorem dJ0_checkIndex_df160_1 : decode cJ0_checkIndex_df160 1 = .ok (.iload_n 1, 1) := by decide +kernel
theorem dJ0_checkIndex_df160_2 : decode cJ0_checkIndex_df160 2 = .ok (.getstatic 1053, 3) := by decide +kernel
theorem dJ0_checkIndex_df160_5 : decode cJ0_checkIndex_df160 5 = .ok (.invokestatic 1059, 3) := by decide +kernel
theorem dJ0_checkIndex_df160_8 : decode cJ0_checkIndex_df160 8 = .ok (.pop, 1) := by decide +kernel
theorem dJ0_checkIndex_df160_9 : decode cJ0_checkIndex_df160 9 = .ok (.return_, 1) := by decide +kernel
theorem dJ0_checkBoundsOffCount_cabcc_0 : decode cJ0_checkBoundsOffCount_cabcc 0 = .ok (.iload_n 0, 1) := by decide +kernel
theorem dJ0_checkBoundsOffCount_cabcc_1 : decode cJ0_checkBoundsOffCount_cabcc 1 = .ok (.iload_n 1, 1) := by decide +kernel
theorem dJ0_checkBoundsOffCount_cabcc_2 : decode cJ0_checkBoundsOffCount_cabcc 2 = .ok (.iload_n 2, 1) := by decide +kernel
theorem dJ0_checkBoundsOffCount_cabcc_3 : decode cJ0_checkBoundsOffCount_cabcc 3 = .ok (.getstatic 1053, 3) := by decide +kernel
theorem dJ0_checkBoundsOffCount_cabcc_6 : decode cJ0_checkBoundsOffCount_cabcc 6 = .ok (.invokestatic 1065, 3) := by decide +kernel
theorem dJ0_checkBoundsOffCount_cabcc_9 : decode cJ0_checkBoundsOffCount_cabcc 9 = .ok (.ireturn, 1) := by decide +kernel
theorem dJ0_checkBoundsBeginEnd_23922_0 : decode cJ0_checkBoundsBeginEnd_23922 0 = .ok (.iload_n 0, 1) := by decide +kernel
theorem dJ0_checkBoundsBeginEnd_23922_1 : decode cJ0_checkBoundsBeginEnd_23922 1 = .ok (.iload_n 1, 1) := by decide +kernel
theorem dJ0_checkBoundsBeginEnd_23922_2 : decode cJ0_checkBoundsBeginEnd_23922 2 = .ok (.iload_n 2, 1) := by decide +kernel
theorem dJ0_checkBoundsBeginEnd_23922_3 : decode cJ0_checkBoundsBeginEnd_23922 3 = .ok (.getstatic 1053, 3) := by decide +kernel
theorem dJ0_checkBoundsBeginEnd_23922_6 : decode cJ0_checkBoundsBeginEnd_23922 6 = .ok (.invokestatic 1062, 3) := by decide +kernel
theorem dJ0_checkBoundsBeginEnd_23922_9 : decode cJ0_checkBoundsBeginEnd_23922 9 = .ok (.pop, 1) := by decide +kernel
theorem dJ0_checkBoundsBeginEnd_23922_10 : decode cJ0_checkBoundsBeginEnd_23922 10 = .ok (.return_, 1) := by decide +kernel
theorem dJ4_init_da8c8_0 : decode cJ4_init_da8c8 0 = .ok (.aload_n 0, 1) := by decide +kernel
theorem dJ4_init_da8c8_1 : decode cJ4_init_da8c8 1 = .ok (.bipush 16, 2) := by decide +kernel
theorem dJ4_init_da8c8_3 : decode cJ4_init_da8c8 3 = .ok (.invokespecial 1, 3) := by decide +kernel
theorem dJ4_init_da8c8_6 : decode cJ4_init_da8c8 6 = .ok (.return_, 1) := by decide +kernel
theorem dJ4_append_15ec4_0 : decode cJ4_append_15ec4 0 = .ok (.aload_n 0, 1) := by decide +kernel
theorem dJ4_append_15ec4_1 : decode cJ4_append_15ec4 1 = .ok (.aload_n 1, 1) := by decide +kernel
theorem dJ4_append_15ec4_2 : decode cJ4_append_15ec4 2 = .ok (.invokespecial 29, 3) := by decide +kernel
theorem dJ4_append_15ec4_5 : decode cJ4_append_15ec4 5 = .ok (.pop, 1) := by decide +kernel
theorem dJ4_append_15ec4_6 : decode cJ4_append_15ec4 6 = .ok (.aload_n 0, 1) := by decide +kernel
theorem dJ4_append_15ec4_7 : decode cJ4_append_15ec4 7 = .ok (.areturn, 1) := by decide +kernel
theorem dJ4_append_bf812_0 : decode cJ4_append_bf812 0 = .ok (.aload_n 0, 1) := by decide +kernel
theorem dJ4_append_bf812_1 : decode cJ4_append_bf812 1 = .ok (.iload_n 1, 1) := by decide +kernel
theorem dJ4_append_bf812_2 : decode cJ4_append_bf812 2 = .ok (.invokespecial 53, 3) := by decide +kernel
theorem dJ4_append_bf812_5 : decode cJ4_append_bf812 5 = .ok (.pop, 1) := by decide +kernel
theorem dJ4_append_bf812_6 : decode cJ4_append_bf812 6 = .ok (.aload_n 0, 1) := by decide +kernel
theorem dJ4_append_bf812_7 : decode cJ4_append_bf812 7 = .ok (.areturn, 1) := by decide +kernel
theorem dJ4_toString_0e30d_0 : decode cJ4_toString_0e30d 0 = .ok (.new 18, 3) := by decide +kernel
theorem dJ4_toString_0e30d_3 : decode cJ4_toString_0e30d 3 = .ok (.dup, 1) := by decide +kernel
theorem dJ4_toString_0e30d_4 : decode cJ4_toString_0e30d 4 = .ok (.aload_n 0, 1) := by decide +kernel
theorem dJ4_toString_0e30d_5 : decode cJ4_toString_0e30d 5 = .ok (.invokespecial 137, 3) := by decide +kernel
theorem dJ4_toString_0e30d_8 : decode cJ4_toString_0e30d 8 = .ok (.areturn, 1) := by decide +kernel
theorem dJ4_length_8abf5_0 : decode cJ4_length_8abf5 0 = .ok (.aload_n 0, 1) := by decide +kernel
theorem dJ4_length_8abf5_1 : decode cJ4_length_8abf5 1 = .ok (.invokespecial 343, 3) := by decide +kernel
theorem dJ4_length_8abf5_4 : decode cJ4_length_8abf5 4 = .ok (.ireturn, 1) := by decide +kernel
theorem dJ1_charAt_3b067_0 : decode cJ1_charAt_3b067 0 = .ok (.iload_n 1, 1) := by decide +kernel
theorem dJ1_charAt_3b067_1 : decode cJ1_charAt_3b067 1 = .ok (.aload_n 0, 1) := by decide +kernel
theorem dJ1_charAt_3b067_2 : decode cJ1_charAt_3b067 2 = .ok (.arraylength, 1) := by decide +kernel
theorem dJ1_charAt_3b067_3 : decode cJ1_charAt_3b067 3 = .ok (.invokestatic 9, 3) := by decide +kernel
theorem dJ1_charAt_3b067_6 : decode cJ1_charAt_3b067 6 = .ok (.aload_n 0, 1) := by decide +kernel
theorem dJ1_charAt_3b067_7 : decode cJ1_charAt_3b067 7 = .ok (.iload_n 1, 1) := by decide +kernel
theorem dJ1_charAt_3b067_8 : decode cJ1_charAt_3b067 8 = .ok (.baload, 1) := by decide +kernel
theorem dJ1_charAt_3b067_9 : decode cJ1_charAt_3b067 9 = .ok (.sipush 255, 3) := by decide +kernel
theorem dJ1_charAt_3b067_12 : decode cJ1_charAt_3b067 12 = .ok (.iand, 1) := by decide +kernel
theorem dJ1_charAt_3b067_13 : decode cJ1_charAt_3b067 13 = .ok (.i2c, 1) := by decide +kernel
theorem dJ1_charAt_3b067_14 : decode cJ1_charAt_3b067 14 = .ok (.ireturn, 1) := by decide +kernel
theorem dJ1_inflate_0e8fd_0 : decode cJ1_inflate_0e8fd 0 = .ok (.aload_n 0, 1) := by decide +kernel
theorem dJ1_inflate_0e8fd_1 : decode cJ1_inflate_0e8fd 1 = .ok (.iload_n 1, 1) := by decide +kernel
theorem dJ1_inflate_0e8fd_2 : decode cJ1_inflate_0e8fd 2 = .ok (.aload_n 2, 1) := by decide +kernel
theorem dJ1_inflate_0e8fd_3 : decode cJ1_inflate_0e8fd 3 = .ok (.iload_n 3, 1) := by decide +kernel
theorem dJ1_inflate_0e8fd_4 : decode cJ1_inflate_0e8fd 4 = .ok (.iload 4, 2) := by decide +kernel
theorem dJ1_inflate_0e8fd_6 : decode cJ1_inflate_0e8fd 6 = .ok (.invokestatic 240, 3) := by decide +kernel
theorem dJ1_inflate_0e8fd_9 : decode cJ1_inflate_0e8fd 9 = .ok (.return_, 1) := by decide +kernel
theorem dJ2_newBytesFor_77867_0 : decode cJ2_newBytesFor_77867 0 = .ok (.iload_n 0, 1) := by decide +kernel
theorem dJ2_newBytesFor_77867_1 : decode cJ2_newBytesFor_77867 1 = .ok (.invokestatic 11, 3) := by decide +kernel
theorem dJ2_newBytesFor_77867_4 : decode cJ2_newBytesFor_77867 4 = .ok (.newarray .byte, 2) := by decide +kernel
theorem dJ2_newBytesFor_77867_6 : decode cJ2_newBytesFor_77867 6 = .ok (.areturn, 1) := by decide +kernel
theorem dJ2_newBytesLength_0f7a4_0 : decode cJ2_newBytesLength_0f7a4 0 = .ok (.iload_n 0, 1) := by decide +kernel
theorem dJ2_newBytesLength_0f7a4_1 : decode cJ2_newBytesLength_0f7a4 1 = .ok (.ifCond .ge 11, 3) := by decide +kernel
theorem dJ2_newBytesLength_0f7a4_4 : decode cJ2_newBytesLength_0f7a4 4 = .ok (.new 17, 3) := by decide +kernel
theorem dJ2_newBytesLength_0f7a4_7 : decode cJ2_newBytesLength_0f7a4 7 = .ok (.dup, 1) := by decide +kernel
theorem dJ2_newBytesLength_0f7a4_8 : decode cJ2_newBytesLength_0f7a4 8 = .ok (.invokespecial 19, 3) := by decide +kernel
theorem dJ2_newBytesLength_0f7a4_11 : decode cJ2_newBytesLength_0f7a4 11 = .ok (.athrow, 1) := by decide +kernel
theorem dJ2_newBytesLength_0f7a4_12 : decode cJ2_newBytesLength_0f7a4 12 = .ok (.iload_n 0, 1) := by decide +kernel
theorem dJ2_newBytesLength_0f7a4_13 : decode cJ2_newBytesLength_0f7a4 13 = .ok (.ldc 20, 2) := by decide +kernel
theorem dJ2_newBytesLength_0f7a4_15 : decode cJ2_newBytesLength_0f7a4 15 = .ok (.if_icmp .lt 40, 3) := by decide +kernel
theorem dJ2_newBytesLength_0f7a4_18 : decode cJ2_newBytesLength_0f7a4 18 = .ok (.new 21, 3) := by decide +kernel
theorem dJ2_newBytesLength_0f7a4_21 : decode cJ2_newBytesLength_0f7a4 21 = .ok (.dup, 1) := by decide +kernel
theorem dJ2_newBytesLength_0f7a4_22 : decode cJ2_newBytesLength_0f7a4 22 = .ok (.new 23, 3) := by decide +kernel
theorem dJ2_newBytesLength_0f7a4_25 : decode cJ2_newBytesLength_0f7a4 25 = .ok (.dup, 1) := by decide +kernel
theorem dJ2_newBytesLength_0f7a4_26 : decode cJ2_newBytesLength_0f7a4 26 = .ok (.invokespecial 25, 3) := by decide +kernel
theorem dJ2_newBytesLength_0f7a4_29 : decode cJ2_newBytesLength_0f7a4 29 = .ok (.ldc 26, 2) := by decide +kernel
theorem dJ2_newBytesLength_0f7a4_31 : decode cJ2_newBytesLength_0f7a4 31 = .ok (.invokevirtual 28, 3) := by decide +kernel
theorem dJ2_newBytesLength_0f7a4_34 : decode cJ2_newBytesLength_0f7a4 34 = .ok (.iload_n 0, 1) := by decide +kernel
theorem dJ2_newBytesLength_0f7a4_35 : decode cJ2_newBytesLength_0f7a4 35 = .ok (.invokevirtual 32, 3) := by decide +kernel
theorem dJ2_newBytesLength_0f7a4_38 : decode cJ2_newBytesLength_0f7a4 38 = .ok (.ldc 35, 2) := by decide +kernel
theorem dJ2_newBytesLength_0f7a4_40 : decode cJ2_newBytesLength_0f7a4 40 = .ok (.invokevirtual 28, 3) := by decide +kernel
theorem dJ2_newBytesLength_0f7a4_43 : decode cJ2_newBytesLength_0f7a4 43 = .ok (.ldc 20, 2) := by decide +kernel
theorem dJ2_newBytesLength_0f7a4_45 : decode cJ2_newBytesLength_0f7a4 45 = .ok (.invokevirtual 32, 3) := by decide +kernel
theorem dJ2_newBytesLength_0f7a4_48 : decode cJ2_newBytesLength_0f7a4 48 = .ok (.invokevirtual 37, 3) := by decide +kernel
theorem dJ2_newBytesLength_0f7a4_51 : decode cJ2_newBytesLength_0f7a4 51 = .ok (.invokespecial 41, 3) := by decide +kernel
theorem dJ2_newBytesLength_0f7a4_54 : decode cJ2_newBytesLength_0f7a4 54 = .ok (.athrow, 1) := by decide +kernel
theorem dJ2_newBytesLength_0f7a4_55 : decode cJ2_newBytesLength_0f7a4 55 = .ok (.iload_n 0, 1) := by decide +kernel
theorem dJ2_newBytesLength_0f7a4_56 : decode cJ2_newBytesLength_0f7a4 56 = .ok (.iconst 1, 1) := by decide +kernel
theorem dJ2_newBytesLength_0f7a4_57 : decode cJ2_newBytesLength_0f7a4 57 = .ok (.ishl, 1) := by decide +kernel
theorem dJ2_newBytesLength_0f7a4_58 : decode cJ2_newBytesLength_0f7a4 58 = .ok (.ireturn, 1) := by decide +kernel
theorem dJ2_putChar_b72d1_0 : decode cJ2_putChar_b72d1 0 = .ok (.getstatic 44, 3) := by decide +kernel
theorem dJ2_putChar_b72d1_3 : decode cJ2_putChar_b72d1 3 = .ok (.ifCond .ne 25, 3) := by decide +kernel
theorem dJ2_putChar_b72d1_6 : decode cJ2_putChar_b72d1 6 = .ok (.iload_n 1, 1) := by decide +kernel
theorem dJ2_putChar_b72d1_7 : decode cJ2_putChar_b72d1 7 = .ok (.ifCond .lt 11, 3) := by decide +kernel
theorem dJ2_putChar_b72d1_10 : decode cJ2_putChar_b72d1 10 = .ok (.iload_n 1, 1) := by decide +kernel
theorem dJ2_putChar_b72d1_11 : decode cJ2_putChar_b72d1 11 = .ok (.aload_n 0, 1) := by decide +kernel
theorem dJ2_putChar_b72d1_12 : decode cJ2_putChar_b72d1 12 = .ok (.invokestatic 48, 3) := by decide +kernel
theorem dJ2_putChar_b72d1_15 : decode cJ2_putChar_b72d1 15 = .ok (.if_icmp .lt 13, 3) := by decide +kernel
theorem dJ2_putChar_b72d1_18 : decode cJ2_putChar_b72d1 18 = .ok (.new 52, 3) := by decide +kernel
theorem dJ2_putChar_b72d1_21 : decode cJ2_putChar_b72d1 21 = .ok (.dup, 1) := by decide +kernel
theorem dJ2_putChar_b72d1_22 : decode cJ2_putChar_b72d1 22 = .ok (.ldc 54, 2) := by decide +kernel
theorem dJ2_putChar_b72d1_24 : decode cJ2_putChar_b72d1 24 = .ok (.invokespecial 56, 3) := by decide +kernel
theorem dJ2_putChar_b72d1_27 : decode cJ2_putChar_b72d1 27 = .ok (.athrow, 1) := by decide +kernel
theorem dJ2_putChar_b72d1_28 : decode cJ2_putChar_b72d1 28 = .ok (.iload_n 1, 1) := by decide +kernel
theorem dJ2_putChar_b72d1_29 : decode cJ2_putChar_b72d1 29 = .ok (.iconst 1, 1) := by decide +kernel
theorem dJ2_putChar_b72d1_30 : decode cJ2_putChar_b72d1 30 = .ok (.ishl, 1) := by decide +kernel
theorem dJ2_putChar_b72d1_31 : decode cJ2_putChar_b72d1 31 = .ok (.istore_n 1, 1) := by decide +kernel
theorem dJ2_putChar_b72d1_32 : decode cJ2_putChar_b72d1 32 = .ok (.aload_n 0, 1) := by decide +kernel
theorem dJ2_putChar_b72d1_33 : decode cJ2_putChar_b72d1 33 = .ok (.iload_n 1, 1) := by decide +kernel
theorem dJ2_putChar_b72d1_34 : decode cJ2_putChar_b72d1 34 = .ok (.iinc 1 1, 3) := by decide +kernel
theorem dJ2_putChar_b72d1_37 : decode cJ2_putChar_b72d1 37 = .ok (.iload_n 2, 1) := by decide +kernel
theorem dJ2_putChar_b72d1_38 : decode cJ2_putChar_b72d1 38 = .ok (.getstatic 59, 3) := by decide +kernel
theorem dJ2_putChar_b72d1_41 : decode cJ2_putChar_b72d1 41 = .ok (.ishr, 1) := by decide +kernel
theorem dJ2_putChar_b72d1_42 : decode cJ2_putChar_b72d1 42 = .ok (.i2b, 1) := by decide +kernel
theorem dJ2_putChar_b72d1_43 : decode cJ2_putChar_b72d1 43 = .ok (.bastore, 1) := by decide +kernel
theorem dJ2_putChar_b72d1_44 : decode cJ2_putChar_b72d1 44 = .ok (.aload_n 0, 1) := by decide +kernel
theorem dJ2_putChar_b72d1_45 : decode cJ2_putChar_b72d1 45 = .ok (.iload_n 1, 1) := by decide +kernel
theorem dJ2_putChar_b72d1_46 : decode cJ2_putChar_b72d1 46 = .ok (.iload_n 2, 1) := by decide +kernel
theorem dJ2_putChar_b72d1_47 : decode cJ2_putChar_b72d1 47 = .ok (.getstatic 63, 3) := by decide +kernel
theorem dJ2_putChar_b72d1_50 : decode cJ2_putChar_b72d1 50 = .ok (.ishr, 1) := by decide +kernel
theorem dJ2_putChar_b72d1_51 : decode cJ2_putChar_b72d1 51 = .ok (.i2b, 1) := by decide +kernel
theorem dJ2_putChar_b72d1_52 : decode cJ2_putChar_b72d1 52 = .ok (.bastore, 1) := by decide +kernel
theorem dJ2_putChar_b72d1_53 : decode cJ2_putChar_b72d1 53 = .ok (.return_, 1) := by decide +kernel
theorem dJ2_getChar_3b067_0 : decode cJ2_getChar_3b067 0 = .ok (.getstatic 44, 3) := by decide +kernel
theorem dJ2_getChar_3b067_3 : decode cJ2_getChar_3b067 3 = .ok (.ifCond .ne 25, 3) := by decide +kernel
theorem dJ2_getChar_3b067_6 : decode cJ2_getChar_3b067 6 = .ok (.iload_n 1, 1) := by decide +kernel
theorem dJ2_getChar_3b067_7 : decode cJ2_getChar_3b067 7 = .ok (.ifCond .lt 11, 3) := by decide +kernel
theorem dJ2_getChar_3b067_10 : decode cJ2_getChar_3b067 10 = .ok (.iload_n 1, 1) := by decide +kernel
theorem dJ2_getChar_3b067_11 : decode cJ2_getChar_3b067 11 = .ok (.aload_n 0, 1) := by decide +kernel
theorem dJ2_getChar_3b067_12 : decode cJ2_getChar_3b067 12 = .ok (.invokestatic 48, 3) := by decide +kernel
theorem dJ2_getChar_3b067_15 : decode cJ2_getChar_3b067 15 = .ok (.if_icmp .lt 13, 3) := by decide +kernel
theorem dJ2_getChar_3b067_18 : decode cJ2_getChar_3b067 18 = .ok (.new 52, 3) := by decide +kernel
theorem dJ2_getChar_3b067_21 : decode cJ2_getChar_3b067 21 = .ok (.dup, 1) := by decide +kernel
theorem dJ2_getChar_3b067_22 : decode cJ2_getChar_3b067 22 = .ok (.ldc 54, 2) := by decide +kernel
theorem dJ2_getChar_3b067_24 : decode cJ2_getChar_3b067 24 = .ok (.invokespecial 56, 3) := by decide +kernel
theorem dJ2_getChar_3b067_27 : decode cJ2_getChar_3b067 27 = .ok (.athrow, 1) := by decide +kernel
theorem dJ2_getChar_3b067_28 : decode cJ2_getChar_3b067 28 = .ok (.iload_n 1, 1) := by decide +kernel
theorem dJ2_getChar_3b067_29 : decode cJ2_getChar_3b067 29 = .ok (.iconst 1, 1) := by decide +kernel
theorem dJ2_getChar_3b067_30 : decode cJ2_getChar_3b067 30 = .ok (.ishl, 1) := by decide +kernel
theorem dJ2_getChar_3b067_31 : decode cJ2_getChar_3b067 31 = .ok (.istore_n 1, 1) := by decide +kernel
theorem dJ2_getChar_3b067_32 : decode cJ2_getChar_3b067 32 = .ok (.aload_n 0, 1) := by decide +kernel
theorem dJ2_getChar_3b067_33 : decode cJ2_getChar_3b067 33 = .ok (.iload_n 1, 1) := by decide +kernel
theorem dJ2_getChar_3b067_34 : decode cJ2_getChar_3b067 34 = .ok (.iinc 1 1, 3) := by decide +kernel
theorem dJ2_getChar_3b067_37 : decode cJ2_getChar_3b067 37 = .ok (.baload, 1) := by decide +kernel
theorem dJ2_getChar_3b067_38 : decode cJ2_getChar_3b067 38 = .ok (.sipush 255, 3) := by decide +kernel
theorem dJ2_getChar_3b067_41 : decode cJ2_getChar_3b067 41 = .ok (.iand, 1) := by decide +kernel
theorem dJ2_getChar_3b067_42 : decode cJ2_getChar_3b067 42 = .ok (.getstatic 59, 3) := by decide +kernel
theorem dJ2_getChar_3b067_45 : decode cJ2_getChar_3b067 45 = .ok (.ishl, 1) := by decide +kernel
theorem dJ2_getChar_3b067_46 : decode cJ2_getChar_3b067 46 = .ok (.aload_n 0, 1) := by decide +kernel
theorem dJ2_getChar_3b067_47 : decode cJ2_getChar_3b067 47 = .ok (.iload_n 1, 1) := by decide +kernel
theorem dJ2_getChar_3b067_48 : decode cJ2_getChar_3b067 48 = .ok (.baload, 1) := by decide +kernel
theorem dJ2_getChar_3b067_49 : decode cJ2_getChar_3b067 49 = .ok (.sipush 255, 3) := by decide +kernel
theorem dJ2_getChar_3b067_52 : decode cJ2_getChar_3b067 52 = .ok (.iand, 1) := by decide +kernel
theorem dJ2_getChar_3b067_53 : decode cJ2_getChar_3b067 53 = .ok (.getstatic 63, 3) := by decide +kernel
theorem dJ2_getChar_3b067_56 : decode cJ2_getChar_3b067 56 = .ok (.ishl, 1) := by decide +kernel
theorem dJ2_getChar_3b067_57 : decode cJ2_getChar_3b067 57 = .ok (.ior, 1) := by decide +kernel
theorem dJ2_getChar_3b067_58 : decode cJ2_getChar_3b067 58 = .ok (.i2c, 1) := by decide +kernel
theorem dJ2_getChar_3b067_59 : decode cJ2_getChar_3b067 59 = .ok (.ireturn, 1) := by decide +kernel
theorem dJ2_length_9d52b_0 : decode cJ2_length_9d52b 0 = .ok (.aload_n 0, 1) := by decide +kernel
theorem dJ2_length_9d52b_1 : decode cJ2_length_9d52b 1 = .ok (.arraylength, 1) := by decide +kernel
theorem dJ2_length_9d52b_2 : decode cJ2_length_9d52b 2 = .ok (.iconst 1, 1) := by decide +kernel
theorem dJ2_length_9d52b_3 : decode cJ2_length_9d52b 3 = .ok (.ishr, 1) := by decide +kernel
theorem dJ2_length_9d52b_4 : decode cJ2_length_9d52b 4 = .ok (.ireturn, 1) := by decide +kernel
theorem dJ2_coderFromArrayLen_85cad_0 : decode cJ2_coderFromArrayLen_85cad 0 = .ok (.iload_n 1, 1) := by decide +kernel
theorem dJ2_coderFromArrayLen_85cad_1 : decode cJ2_coderFromArrayLen_85cad 1 = .ok (.aload_n 0, 1) := by decide +kernel
theorem dJ2_coderFromArrayLen_85cad_2 : decode cJ2_coderFromArrayLen_85cad 2 = .ok (.arraylength, 1) := by decide +kernel
theorem dJ2_coderFromArrayLen_85cad_3 : decode cJ2_coderFromArrayLen_85cad 3 = .ok (.isub, 1) := by decide +kernel
theorem dJ2_coderFromArrayLen_85cad_4 : decode cJ2_coderFromArrayLen_85cad 4 = .ok (.bipush 31, 2) := by decide +kernel
theorem dJ2_coderFromArrayLen_85cad_6 : decode cJ2_coderFromArrayLen_85cad 6 = .ok (.iushr, 1) := by decide +kernel
theorem dJ2_coderFromArrayLen_85cad_7 : decode cJ2_coderFromArrayLen_85cad 7 = .ok (.i2b, 1) := by decide +kernel
theorem dJ2_coderFromArrayLen_85cad_8 : decode cJ2_coderFromArrayLen_85cad 8 = .ok (.ireturn, 1) := by decide +kernel
theorem dJ2_compress_39247_0 : decode cJ2_compress_39247 0 = .ok (.iload_n 2, 1) := by decide +kernel
theorem dJ2_compress_39247_1 : decode cJ2_compress_39247 1 = .ok (.newarray .byte, 2) := by decide +kernel
theorem dJ2_compress_39247_3 : decode cJ2_compress_39247 3 = .ok (.astore_n 3, 1) := by decide +kernel
theorem dJ2_compress_39247_4 : decode cJ2_compress_39247 4 = .ok (.aload_n 0, 1) := by decide +kernel
theorem dJ2_compress_39247_5 : decode cJ2_compress_39247 5 = .ok (.iload_n 1, 1) := by decide +kernel
theorem dJ2_compress_39247_6 : decode cJ2_compress_39247 6 = .ok (.aload_n 3, 1) := by decide +kernel
theorem dJ2_compress_39247_7 : decode cJ2_compress_39247 7 = .ok (.iconst 0, 1) := by decide +kernel
theorem dJ2_compress_39247_8 : decode cJ2_compress_39247 8 = .ok (.iload_n 2, 1) := by decide +kernel
theorem dJ2_compress_39247_9 : decode cJ2_compress_39247 9 = .ok (.invokestatic 123, 3) := by decide +kernel
theorem dJ2_compress_39247_12 : decode cJ2_compress_39247 12 = .ok (.istore 4, 2) := by decide +kernel
theorem dJ2_compress_39247_14 : decode cJ2_compress_39247 14 = .ok (.iload 4, 2) := by decide +kernel
theorem dJ2_compress_39247_16 : decode cJ2_compress_39247 16 = .ok (.iload_n 2, 1) := by decide +kernel
theorem dJ2_compress_39247_17 : decode cJ2_compress_39247 17 = .ok (.if_icmp .eq 47, 3) := by decide +kernel
theorem dJ2_compress_39247_20 : decode cJ2_compress_39247 20 = .ok (.aload_n 0, 1) := by decide +kernel
theorem dJ2_compress_39247_21 : decode cJ2_compress_39247 21 = .ok (.iload_n 1, 1) := by decide +kernel
theorem dJ2_compress_39247_22 : decode cJ2_compress_39247 22 = .ok (.iconst 1, 1) := by decide +kernel
theorem dJ2_compress_39247_23 : decode cJ2_compress_39247 23 = .ok (.ishl, 1) := by decide +kernel
theorem dJ2_compress_39247_24 : decode cJ2_compress_39247 24 = .ok (.iload_n 1, 1) := by decide +kernel
theorem dJ2_compress_39247_25 : decode cJ2_compress_39247 25 = .ok (.iload_n 2, 1) := by decide +kernel
theorem dJ2_compress_39247_26 : decode cJ2_compress_39247 26 = .ok (.iadd, 1) := by decide +kernel
theorem dJ2_compress_39247_27 : decode cJ2_compress_39247 27 = .ok (.invokestatic 11, 3) := by decide +kernel
theorem dJ2_compress_39247_30 : decode cJ2_compress_39247 30 = .ok (.invokestatic 126, 3) := by decide +kernel
theorem dJ2_compress_39247_33 : decode cJ2_compress_39247 33 = .ok (.astore 5, 2) := by decide +kernel
theorem dJ2_compress_39247_35 : decode cJ2_compress_39247 35 = .ok (.aload 5, 2) := by decide +kernel
theorem dJ2_compress_39247_37 : decode cJ2_compress_39247 37 = .ok (.iload 4, 2) := by decide +kernel
theorem dJ2_compress_39247_39 : decode cJ2_compress_39247 39 = .ok (.invokestatic 71, 3) := by decide +kernel
theorem dJ2_compress_39247_42 : decode cJ2_compress_39247 42 = .ok (.sipush 255, 3) := by decide +kernel
theorem dJ2_compress_39247_45 : decode cJ2_compress_39247 45 = .ok (.if_icmp .gt 16, 3) := by decide +kernel
theorem dJ2_compress_39247_48 : decode cJ2_compress_39247 48 = .ok (.aload 5, 2) := by decide +kernel
theorem dJ2_compress_39247_50 : decode cJ2_compress_39247 50 = .ok (.iconst 0, 1) := by decide +kernel
theorem dJ2_compress_39247_51 : decode cJ2_compress_39247 51 = .ok (.aload_n 3, 1) := by decide +kernel
theorem dJ2_compress_39247_52 : decode cJ2_compress_39247 52 = .ok (.iconst 0, 1) := by decide +kernel
theorem dJ2_compress_39247_53 : decode cJ2_compress_39247 53 = .ok (.iload_n 2, 1) := by decide +kernel
theorem dJ2_compress_39247_54 : decode cJ2_compress_39247 54 = .ok (.invokestatic 123, 3) := by decide +kernel
theorem dJ2_compress_39247_57 : decode cJ2_compress_39247 57 = .ok (.iload_n 2, 1) := by decide +kernel
theorem dJ2_compress_39247_58 : decode cJ2_compress_39247 58 = .ok (.if_icmp .eq 6, 3) := by decide +kernel
theorem dJ2_compress_39247_61 : decode cJ2_compress_39247 61 = .ok (.aload 5, 2) := by decide +kernel
theorem dJ2_compress_39247_63 : decode cJ2_compress_39247 63 = .ok (.areturn, 1) := by decide +kernel
theorem dJ2_compress_39247_64 : decode cJ2_compress_39247 64 = .ok (.aload_n 3, 1) := by decide +kernel
theorem dJ2_compress_39247_65 : decode cJ2_compress_39247 65 = .ok (.areturn, 1) := by decide +kernel
theorem dJ2_compress_5af95_0 : decode cJ2_compress_5af95 0 = .ok (.iload_n 1, 1) := by decide +kernel
theorem dJ2_compress_5af95_1 : decode cJ2_compress_5af95 1 = .ok (.iload 4, 2) := by decide +kernel
theorem dJ2_compress_5af95_3 : decode cJ2_compress_5af95 3 = .ok (.aload_n 0, 1) := by decide +kernel
theorem dJ2_compress_5af95_4 : decode cJ2_compress_5af95 4 = .ok (.invokestatic 173, 3) := by decide +kernel
theorem dJ2_compress_5af95_7 : decode cJ2_compress_5af95 7 = .ok (.iconst 0, 1) := by decide +kernel
theorem dJ2_compress_5af95_8 : decode cJ2_compress_5af95 8 = .ok (.istore 5, 2) := by decide +kernel
theorem dJ2_compress_5af95_10 : decode cJ2_compress_5af95 10 = .ok (.iload 5, 2) := by decide +kernel
theorem dJ2_compress_5af95_12 : decode cJ2_compress_5af95 12 = .ok (.iload 4, 2) := by decide +kernel
theorem dJ2_compress_5af95_14 : decode cJ2_compress_5af95 14 = .ok (.if_icmp .ge 39, 3) := by decide +kernel
theorem dJ2_compress_5af95_17 : decode cJ2_compress_5af95 17 = .ok (.aload_n 0, 1) := by decide +kernel
theorem dJ2_compress_5af95_18 : decode cJ2_compress_5af95 18 = .ok (.iload_n 1, 1) := by decide +kernel
theorem dJ2_compress_5af95_19 : decode cJ2_compress_5af95 19 = .ok (.invokestatic 71, 3) := by decide +kernel
theorem dJ2_compress_5af95_22 : decode cJ2_compress_5af95 22 = .ok (.istore 6, 2) := by decide +kernel
theorem dJ2_compress_5af95_24 : decode cJ2_compress_5af95 24 = .ok (.iload 6, 2) := by decide +kernel
theorem dJ2_compress_5af95_26 : decode cJ2_compress_5af95 26 = .ok (.sipush 255, 3) := by decide +kernel
theorem dJ2_compress_5af95_29 : decode cJ2_compress_5af95 29 = .ok (.if_icmp .le 6, 3) := by decide +kernel
theorem dJ2_compress_5af95_32 : decode cJ2_compress_5af95 32 = .ok (.iload 5, 2) := by decide +kernel
theorem dJ2_compress_5af95_34 : decode cJ2_compress_5af95 34 = .ok (.ireturn, 1) := by decide +kernel
theorem dJ2_compress_5af95_35 : decode cJ2_compress_5af95 35 = .ok (.aload_n 2, 1) := by decide +kernel
theorem dJ2_compress_5af95_36 : decode cJ2_compress_5af95 36 = .ok (.iload_n 3, 1) := by decide +kernel
theorem dJ2_compress_5af95_37 : decode cJ2_compress_5af95 37 = .ok (.iload 6, 2) := by decide +kernel
theorem dJ2_compress_5af95_39 : decode cJ2_compress_5af95 39 = .ok (.i2b, 1) := by decide +kernel
theorem dJ2_compress_5af95_40 : decode cJ2_compress_5af95 40 = .ok (.bastore, 1) := by decide +kernel
theorem dJ2_compress_5af95_41 : decode cJ2_compress_5af95 41 = .ok (.iinc 1 1, 3) := by decide +kernel
theorem dJ2_compress_5af95_44 : decode cJ2_compress_5af95 44 = .ok (.iinc 3 1, 3) := by decide +kernel
theorem dJ2_compress_5af95_47 : decode cJ2_compress_5af95 47 = .ok (.iinc 5 1, 3) := by decide +kernel
theorem dJ2_compress_5af95_50 : decode cJ2_compress_5af95 50 = .ok (.goto (-40), 3) := by decide +kernel
theorem dJ2_compress_5af95_53 : decode cJ2_compress_5af95 53 = .ok (.iload 4, 2) := by decide +kernel
theorem dJ2_compress_5af95_55 : decode cJ2_compress_5af95 55 = .ok (.ireturn, 1) := by decide +kernel
theorem dJ2_getChars_46870_0 : decode cJ2_getChars_46870 0 = .ok (.iload_n 1, 1) := by decide +kernel
theorem dJ2_getChars_46870_1 : decode cJ2_getChars_46870 1 = .ok (.iload_n 2, 1) := by decide +kernel
theorem dJ2_getChars_46870_2 : decode cJ2_getChars_46870 2 = .ok (.aload_n 3, 1) := by decide +kernel
theorem dJ2_getChars_46870_3 : decode cJ2_getChars_46870 3 = .ok (.invokestatic 96, 3) := by decide +kernel
theorem dJ2_getChars_46870_6 : decode cJ2_getChars_46870 6 = .ok (.iload_n 0, 1) := by decide +kernel
theorem dJ2_getChars_46870_7 : decode cJ2_getChars_46870 7 = .ok (.iload_n 2, 1) := by decide +kernel
theorem dJ2_getChars_46870_8 : decode cJ2_getChars_46870 8 = .ok (.aload_n 3, 1) := by decide +kernel
theorem dJ2_getChars_46870_9 : decode cJ2_getChars_46870 9 = .ok (.invokestatic 393, 3) := by decide +kernel
theorem dJ2_getChars_46870_12 : decode cJ2_getChars_46870 12 = .ok (.istore 4, 2) := by decide +kernel
theorem dJ2_getChars_46870_14 : decode cJ2_getChars_46870 14 = .ok (.getstatic 44, 3) := by decide +kernel
theorem dJ2_getChars_46870_17 : decode cJ2_getChars_46870 17 = .ok (.ifCond .ne 17, 3) := by decide +kernel
theorem dJ2_getChars_46870_20 : decode cJ2_getChars_46870 20 = .ok (.iload_n 1, 1) := by decide +kernel
theorem dJ2_getChars_46870_21 : decode cJ2_getChars_46870 21 = .ok (.iload 4, 2) := by decide +kernel
theorem dJ2_getChars_46870_23 : decode cJ2_getChars_46870 23 = .ok (.if_icmp .eq 11, 3) := by decide +kernel
theorem dJ2_getChars_46870_26 : decode cJ2_getChars_46870 26 = .ok (.new 52, 3) := by decide +kernel
theorem dJ2_getChars_46870_29 : decode cJ2_getChars_46870 29 = .ok (.dup, 1) := by decide +kernel
theorem dJ2_getChars_46870_30 : decode cJ2_getChars_46870 30 = .ok (.invokespecial 66, 3) := by decide +kernel
theorem dJ2_getChars_46870_33 : decode cJ2_getChars_46870 33 = .ok (.athrow, 1) := by decide +kernel
theorem dJ2_getChars_46870_34 : decode cJ2_getChars_46870 34 = .ok (.iload 4, 2) := by decide +kernel
theorem dJ2_getChars_46870_36 : decode cJ2_getChars_46870 36 = .ok (.ireturn, 1) := by decide +kernel
theorem dJ2_putCharsAt_cd4e5_0 : decode cJ2_putCharsAt_cd4e5 0 = .ok (.iload_n 1, 1) := by decide +kernel
theorem dJ2_putCharsAt_cd4e5_1 : decode cJ2_putCharsAt_cd4e5 1 = .ok (.iconst 4, 1) := by decide +kernel
theorem dJ2_putCharsAt_cd4e5_2 : decode cJ2_putCharsAt_cd4e5 2 = .ok (.iadd, 1) := by decide +kernel
theorem dJ2_putCharsAt_cd4e5_3 : decode cJ2_putCharsAt_cd4e5 3 = .ok (.istore 6, 2) := by decide +kernel
theorem dJ2_putCharsAt_cd4e5_5 : decode cJ2_putCharsAt_cd4e5 5 = .ok (.iload_n 1, 1) := by decide +kernel
theorem dJ2_putCharsAt_cd4e5_6 : decode cJ2_putCharsAt_cd4e5 6 = .ok (.iload 6, 2) := by decide +kernel
theorem dJ2_putCharsAt_cd4e5_8 : decode cJ2_putCharsAt_cd4e5 8 = .ok (.aload_n 0, 1) := by decide +kernel
theorem dJ2_putCharsAt_cd4e5_9 : decode cJ2_putCharsAt_cd4e5 9 = .ok (.invokestatic 96, 3) := by decide +kernel
theorem dJ2_putCharsAt_cd4e5_12 : decode cJ2_putCharsAt_cd4e5 12 = .ok (.aload_n 0, 1) := by decide +kernel
theorem dJ2_putCharsAt_cd4e5_13 : decode cJ2_putCharsAt_cd4e5 13 = .ok (.iload_n 1, 1) := by decide +kernel
theorem dJ2_putCharsAt_cd4e5_14 : decode cJ2_putCharsAt_cd4e5 14 = .ok (.iinc 1 1, 3) := by decide +kernel
theorem dJ2_putCharsAt_cd4e5_17 : decode cJ2_putCharsAt_cd4e5 17 = .ok (.iload_n 2, 1) := by decide +kernel
theorem dJ2_putCharsAt_cd4e5_18 : decode cJ2_putCharsAt_cd4e5 18 = .ok (.invokestatic 111, 3) := by decide +kernel
theorem dJ2_putCharsAt_cd4e5_21 : decode cJ2_putCharsAt_cd4e5 21 = .ok (.aload_n 0, 1) := by decide +kernel
theorem dJ2_putCharsAt_cd4e5_22 : decode cJ2_putCharsAt_cd4e5 22 = .ok (.iload_n 1, 1) := by decide +kernel
theorem dJ2_putCharsAt_cd4e5_23 : decode cJ2_putCharsAt_cd4e5 23 = .ok (.iinc 1 1, 3) := by decide +kernel
theorem dJ2_putCharsAt_cd4e5_26 : decode cJ2_putCharsAt_cd4e5 26 = .ok (.iload_n 3, 1) := by decide +kernel
theorem dJ2_putCharsAt_cd4e5_27 : decode cJ2_putCharsAt_cd4e5 27 = .ok (.invokestatic 111, 3) := by decide +kernel
theorem dJ2_putCharsAt_cd4e5_30 : decode cJ2_putCharsAt_cd4e5 30 = .ok (.aload_n 0, 1) := by decide +kernel
theorem dJ2_putCharsAt_cd4e5_31 : decode cJ2_putCharsAt_cd4e5 31 = .ok (.iload_n 1, 1) := by decide +kernel
theorem dJ2_putCharsAt_cd4e5_32 : decode cJ2_putCharsAt_cd4e5 32 = .ok (.iinc 1 1, 3) := by decide +kernel
theorem dJ2_putCharsAt_cd4e5_35 : decode cJ2_putCharsAt_cd4e5 35 = .ok (.iload 4, 2) := by decide +kernel
theorem dJ2_putCharsAt_cd4e5_37 : decode cJ2_putCharsAt_cd4e5 37 = .ok (.invokestatic 111, 3) := by decide +kernel
theorem dJ2_putCharsAt_cd4e5_40 : decode cJ2_putCharsAt_cd4e5 40 = .ok (.aload_n 0, 1) := by decide +kernel
theorem dJ2_putCharsAt_cd4e5_41 : decode cJ2_putCharsAt_cd4e5 41 = .ok (.iload_n 1, 1) := by decide +kernel
theorem dJ2_putCharsAt_cd4e5_42 : decode cJ2_putCharsAt_cd4e5 42 = .ok (.iinc 1 1, 3) := by decide +kernel
theorem dJ2_putCharsAt_cd4e5_45 : decode cJ2_putCharsAt_cd4e5 45 = .ok (.iload 5, 2) := by decide +kernel
theorem dJ2_putCharsAt_cd4e5_47 : decode cJ2_putCharsAt_cd4e5 47 = .ok (.invokestatic 111, 3) := by decide +kernel
theorem dJ2_putCharsAt_cd4e5_50 : decode cJ2_putCharsAt_cd4e5 50 = .ok (.getstatic 44, 3) := by decide +kernel
theorem dJ2_putCharsAt_cd4e5_53 : decode cJ2_putCharsAt_cd4e5 53 = .ok (.ifCond .ne 17, 3) := by decide +kernel
theorem dJ2_putCharsAt_cd4e5_56 : decode cJ2_putCharsAt_cd4e5 56 = .ok (.iload_n 1, 1) := by decide +kernel
theorem dJ2_putCharsAt_cd4e5_57 : decode cJ2_putCharsAt_cd4e5 57 = .ok (.iload 6, 2) := by decide +kernel
theorem dJ2_putCharsAt_cd4e5_59 : decode cJ2_putCharsAt_cd4e5 59 = .ok (.if_icmp .eq 11, 3) := by decide +kernel
theorem dJ2_putCharsAt_cd4e5_62 : decode cJ2_putCharsAt_cd4e5 62 = .ok (.new 52, 3) := by decide +kernel
theorem dJ2_putCharsAt_cd4e5_65 : decode cJ2_putCharsAt_cd4e5 65 = .ok (.dup, 1) := by decide +kernel
theorem dJ2_putCharsAt_cd4e5_66 : decode cJ2_putCharsAt_cd4e5 66 = .ok (.invokespecial 66, 3) := by decide +kernel
theorem dJ2_putCharsAt_cd4e5_69 : decode cJ2_putCharsAt_cd4e5 69 = .ok (.athrow, 1) := by decide +kernel
theorem dJ2_putCharsAt_cd4e5_70 : decode cJ2_putCharsAt_cd4e5 70 = .ok (.iload 6, 2) := by decide +kernel
theorem dJ2_putCharsAt_cd4e5_72 : decode cJ2_putCharsAt_cd4e5 72 = .ok (.ireturn, 1) := by decide +kernel
theorem dJ2_charAt_3b067_0 : decode cJ2_charAt_3b067 0 = .ok (.iload_n 1, 1) := by decide +kernel
theorem dJ2_charAt_3b067_1 : decode cJ2_charAt_3b067 1 = .ok (.aload_n 0, 1) := by decide +kernel
theorem dJ2_charAt_3b067_2 : decode cJ2_charAt_3b067 2 = .ok (.invokestatic 67, 3) := by decide +kernel
theorem dJ2_charAt_3b067_5 : decode cJ2_charAt_3b067 5 = .ok (.aload_n 0, 1) := by decide +kernel
theorem dJ2_charAt_3b067_6 : decode cJ2_charAt_3b067 6 = .ok (.iload_n 1, 1) := by decide +kernel
theorem dJ2_charAt_3b067_7 : decode cJ2_charAt_3b067 7 = .ok (.invokestatic 71, 3) := by decide +kernel
theorem dJ2_charAt_3b067_10 : decode cJ2_charAt_3b067 10 = .ok (.ireturn, 1) := by decide +kernel
theorem dJ2_inflate_0e8fd_0 : decode cJ2_inflate_0e8fd 0 = .ok (.iload_n 3, 1) := by decide +kernel
theorem dJ2_inflate_0e8fd_1 : decode cJ2_inflate_0e8fd 1 = .ok (.iload 4, 2) := by decide +kernel
theorem dJ2_inflate_0e8fd_3 : decode cJ2_inflate_0e8fd 3 = .ok (.aload_n 2, 1) := by decide +kernel
theorem dJ2_inflate_0e8fd_4 : decode cJ2_inflate_0e8fd 4 = .ok (.invokestatic 173, 3) := by decide +kernel
theorem dJ2_inflate_0e8fd_7 : decode cJ2_inflate_0e8fd 7 = .ok (.iconst 0, 1) := by decide +kernel
theorem dJ2_inflate_0e8fd_8 : decode cJ2_inflate_0e8fd 8 = .ok (.istore 5, 2) := by decide +kernel
theorem dJ2_inflate_0e8fd_10 : decode cJ2_inflate_0e8fd 10 = .ok (.iload 5, 2) := by decide +kernel
theorem dJ2_inflate_0e8fd_12 : decode cJ2_inflate_0e8fd 12 = .ok (.iload 4, 2) := by decide +kernel
theorem dJ2_inflate_0e8fd_14 : decode cJ2_inflate_0e8fd 14 = .ok (.if_icmp .ge 27, 3) := by decide +kernel
theorem dJ2_inflate_0e8fd_17 : decode cJ2_inflate_0e8fd 17 = .ok (.aload_n 2, 1) := by decide +kernel
theorem dJ2_inflate_0e8fd_18 : decode cJ2_inflate_0e8fd 18 = .ok (.iload_n 3, 1) := by decide +kernel
theorem dJ2_inflate_0e8fd_19 : decode cJ2_inflate_0e8fd 19 = .ok (.iinc 3 1, 3) := by decide +kernel
theorem dJ2_inflate_0e8fd_22 : decode cJ2_inflate_0e8fd 22 = .ok (.aload_n 0, 1) := by decide +kernel
theorem dJ2_inflate_0e8fd_23 : decode cJ2_inflate_0e8fd 23 = .ok (.iload_n 1, 1) := by decide +kernel
theorem dJ2_inflate_0e8fd_24 : decode cJ2_inflate_0e8fd 24 = .ok (.iinc 1 1, 3) := by decide +kernel
theorem dJ2_inflate_0e8fd_27 : decode cJ2_inflate_0e8fd 27 = .ok (.baload, 1) := by decide +kernel
theorem dJ2_inflate_0e8fd_28 : decode cJ2_inflate_0e8fd 28 = .ok (.sipush 255, 3) := by decide +kernel
theorem dJ2_inflate_0e8fd_31 : decode cJ2_inflate_0e8fd 31 = .ok (.iand, 1) := by decide +kernel
theorem dJ2_inflate_0e8fd_32 : decode cJ2_inflate_0e8fd 32 = .ok (.invokestatic 111, 3) := by decide +kernel
theorem dJ2_inflate_0e8fd_35 : decode cJ2_inflate_0e8fd 35 = .ok (.iinc 5 1, 3) := by decide +kernel
theorem dJ2_inflate_0e8fd_38 : decode cJ2_inflate_0e8fd 38 = .ok (.goto (-28), 3) := by decide +kernel
theorem dJ2_inflate_0e8fd_41 : decode cJ2_inflate_0e8fd 41 = .ok (.return_, 1) := by decide +kernel
theorem dJ2_getChars_ba4f3_0 : decode cJ2_getChars_ba4f3 0 = .ok (.iload_n 1, 1) := by decide +kernel
theorem dJ2_getChars_ba4f3_1 : decode cJ2_getChars_ba4f3 1 = .ok (.istore 5, 2) := by decide +kernel
theorem dJ2_getChars_ba4f3_3 : decode cJ2_getChars_ba4f3 3 = .ok (.iload_n 0, 1) := by decide +kernel
theorem dJ2_getChars_ba4f3_4 : decode cJ2_getChars_ba4f3 4 = .ok (.ifCond .ge 7, 3) := by decide +kernel
theorem dJ2_getChars_ba4f3_7 : decode cJ2_getChars_ba4f3 7 = .ok (.iconst 1, 1) := by decide +kernel
theorem dJ2_getChars_ba4f3_8 : decode cJ2_getChars_ba4f3 8 = .ok (.goto 4, 3) := by decide +kernel
theorem dJ2_getChars_ba4f3_11 : decode cJ2_getChars_ba4f3 11 = .ok (.iconst 0, 1) := by decide +kernel
theorem dJ2_getChars_ba4f3_12 : decode cJ2_getChars_ba4f3 12 = .ok (.istore 6, 2) := by decide +kernel
theorem dJ2_getChars_ba4f3_14 : decode cJ2_getChars_ba4f3 14 = .ok (.iload 6, 2) := by decide +kernel
theorem dJ2_getChars_ba4f3_16 : decode cJ2_getChars_ba4f3 16 = .ok (.ifCond .ne 6, 3) := by decide +kernel
theorem dJ2_getChars_ba4f3_19 : decode cJ2_getChars_ba4f3 19 = .ok (.iload_n 0, 1) := by decide +kernel
theorem dJ2_getChars_ba4f3_20 : decode cJ2_getChars_ba4f3 20 = .ok (.ineg, 1) := by decide +kernel
theorem dJ2_getChars_ba4f3_21 : decode cJ2_getChars_ba4f3 21 = .ok (.istore_n 0, 1) := by decide +kernel
theorem dJ2_getChars_ba4f3_22 : decode cJ2_getChars_ba4f3 22 = .ok (.iload_n 0, 1) := by decide +kernel
theorem dJ2_getChars_ba4f3_23 : decode cJ2_getChars_ba4f3 23 = .ok (.bipush (-100), 2) := by decide +kernel
theorem dJ2_getChars_ba4f3_25 : decode cJ2_getChars_ba4f3 25 = .ok (.if_icmp .gt 51, 3) := by decide +kernel
theorem dJ2_getChars_ba4f3_28 : decode cJ2_getChars_ba4f3 28 = .ok (.iload_n 0, 1) := by decide +kernel
theorem dJ2_getChars_ba4f3_29 : decode cJ2_getChars_ba4f3 29 = .ok (.bipush 100, 2) := by decide +kernel
theorem dJ2_getChars_ba4f3_31 : decode cJ2_getChars_ba4f3 31 = .ok (.idiv, 1) := by decide +kernel
theorem dJ2_getChars_ba4f3_32 : decode cJ2_getChars_ba4f3 32 = .ok (.istore_n 3, 1) := by decide +kernel
theorem dJ2_getChars_ba4f3_33 : decode cJ2_getChars_ba4f3 33 = .ok (.iload_n 3, 1) := by decide +kernel
theorem dJ2_getChars_ba4f3_34 : decode cJ2_getChars_ba4f3 34 = .ok (.bipush 100, 2) := by decide +kernel
theorem dJ2_getChars_ba4f3_36 : decode cJ2_getChars_ba4f3 36 = .ok (.imul, 1) := by decide +kernel
theorem dJ2_getChars_ba4f3_37 : decode cJ2_getChars_ba4f3 37 = .ok (.iload_n 0, 1) := by decide +kernel
theorem dJ2_getChars_ba4f3_38 : decode cJ2_getChars_ba4f3 38 = .ok (.isub, 1) := by decide +kernel
theorem dJ2_getChars_ba4f3_39 : decode cJ2_getChars_ba4f3 39 = .ok (.istore 4, 2) := by decide +kernel
theorem dJ2_getChars_ba4f3_41 : decode cJ2_getChars_ba4f3 41 = .ok (.iload_n 3, 1) := by decide +kernel
theorem dJ2_getChars_ba4f3_42 : decode cJ2_getChars_ba4f3 42 = .ok (.istore_n 0, 1) := by decide +kernel
theorem dJ2_getChars_ba4f3_43 : decode cJ2_getChars_ba4f3 43 = .ok (.aload_n 2, 1) := by decide +kernel
theorem dJ2_getChars_ba4f3_44 : decode cJ2_getChars_ba4f3 44 = .ok (.iinc 5 (-1), 3) := by decide +kernel
theorem dJ2_getChars_ba4f3_47 : decode cJ2_getChars_ba4f3 47 = .ok (.iload 5, 2) := by decide +kernel
theorem dJ2_getChars_ba4f3_49 : decode cJ2_getChars_ba4f3 49 = .ok (.getstatic 403, 3) := by decide +kernel
theorem dJ2_getChars_ba4f3_52 : decode cJ2_getChars_ba4f3 52 = .ok (.iload 4, 2) := by decide +kernel
theorem dJ2_getChars_ba4f3_54 : decode cJ2_getChars_ba4f3 54 = .ok (.baload, 1) := by decide +kernel
theorem dJ2_getChars_ba4f3_55 : decode cJ2_getChars_ba4f3 55 = .ok (.invokestatic 111, 3) := by decide +kernel
theorem dJ2_getChars_ba4f3_58 : decode cJ2_getChars_ba4f3 58 = .ok (.aload_n 2, 1) := by decide +kernel
theorem dJ2_getChars_ba4f3_59 : decode cJ2_getChars_ba4f3 59 = .ok (.iinc 5 (-1), 3) := by decide +kernel
theorem dJ2_getChars_ba4f3_62 : decode cJ2_getChars_ba4f3 62 = .ok (.iload 5, 2) := by decide +kernel
theorem dJ2_getChars_ba4f3_64 : decode cJ2_getChars_ba4f3 64 = .ok (.getstatic 407, 3) := by decide +kernel
theorem dJ2_getChars_ba4f3_67 : decode cJ2_getChars_ba4f3 67 = .ok (.iload 4, 2) := by decide +kernel
theorem dJ2_getChars_ba4f3_69 : decode cJ2_getChars_ba4f3 69 = .ok (.baload, 1) := by decide +kernel
theorem dJ2_getChars_ba4f3_70 : decode cJ2_getChars_ba4f3 70 = .ok (.invokestatic 111, 3) := by decide +kernel
theorem dJ2_getChars_ba4f3_73 : decode cJ2_getChars_ba4f3 73 = .ok (.goto (-51), 3) := by decide +kernel
theorem dJ2_getChars_ba4f3_76 : decode cJ2_getChars_ba4f3 76 = .ok (.aload_n 2, 1) := by decide +kernel
theorem dJ2_getChars_ba4f3_77 : decode cJ2_getChars_ba4f3 77 = .ok (.iinc 5 (-1), 3) := by decide +kernel
theorem dJ2_getChars_ba4f3_80 : decode cJ2_getChars_ba4f3 80 = .ok (.iload 5, 2) := by decide +kernel
theorem dJ2_getChars_ba4f3_82 : decode cJ2_getChars_ba4f3 82 = .ok (.getstatic 403, 3) := by decide +kernel
theorem dJ2_getChars_ba4f3_85 : decode cJ2_getChars_ba4f3 85 = .ok (.iload_n 0, 1) := by decide +kernel
theorem dJ2_getChars_ba4f3_86 : decode cJ2_getChars_ba4f3 86 = .ok (.ineg, 1) := by decide +kernel
theorem dJ2_getChars_ba4f3_87 : decode cJ2_getChars_ba4f3 87 = .ok (.baload, 1) := by decide +kernel
theorem dJ2_getChars_ba4f3_88 : decode cJ2_getChars_ba4f3 88 = .ok (.invokestatic 111, 3) := by decide +kernel
theorem dJ2_getChars_ba4f3_91 : decode cJ2_getChars_ba4f3 91 = .ok (.iload_n 0, 1) := by decide +kernel
theorem dJ2_getChars_ba4f3_92 : decode cJ2_getChars_ba4f3 92 = .ok (.bipush (-9), 2) := by decide +kernel
theorem dJ2_getChars_ba4f3_94 : decode cJ2_getChars_ba4f3 94 = .ok (.if_icmp .ge 18, 3) := by decide +kernel
theorem dJ2_getChars_ba4f3_97 : decode cJ2_getChars_ba4f3 97 = .ok (.aload_n 2, 1) := by decide +kernel
theorem dJ2_getChars_ba4f3_98 : decode cJ2_getChars_ba4f3 98 = .ok (.iinc 5 (-1), 3) := by decide +kernel
theorem dJ2_getChars_ba4f3_101 : decode cJ2_getChars_ba4f3 101 = .ok (.iload 5, 2) := by decide +kernel
theorem dJ2_getChars_ba4f3_103 : decode cJ2_getChars_ba4f3 103 = .ok (.getstatic 407, 3) := by decide +kernel
theorem dJ2_getChars_ba4f3_106 : decode cJ2_getChars_ba4f3 106 = .ok (.iload_n 0, 1) := by decide +kernel
theorem dJ2_getChars_ba4f3_107 : decode cJ2_getChars_ba4f3 107 = .ok (.ineg, 1) := by decide +kernel
theorem dJ2_getChars_ba4f3_108 : decode cJ2_getChars_ba4f3 108 = .ok (.baload, 1) := by decide +kernel
theorem dJ2_getChars_ba4f3_109 : decode cJ2_getChars_ba4f3 109 = .ok (.invokestatic 111, 3) := by decide +kernel
theorem dJ2_getChars_ba4f3_112 : decode cJ2_getChars_ba4f3 112 = .ok (.iload 6, 2) := by decide +kernel
theorem dJ2_getChars_ba4f3_114 : decode cJ2_getChars_ba4f3 114 = .ok (.ifCond .eq 14, 3) := by decide +kernel
theorem dJ2_getChars_ba4f3_117 : decode cJ2_getChars_ba4f3 117 = .ok (.aload_n 2, 1) := by decide +kernel
theorem dJ2_getChars_ba4f3_118 : decode cJ2_getChars_ba4f3 118 = .ok (.iinc 5 (-1), 3) := by decide +kernel
theorem dJ2_getChars_ba4f3_121 : decode cJ2_getChars_ba4f3 121 = .ok (.iload 5, 2) := by decide +kernel
theorem dJ2_getChars_ba4f3_123 : decode cJ2_getChars_ba4f3 123 = .ok (.bipush 45, 2) := by decide +kernel
theorem dJ2_getChars_ba4f3_125 : decode cJ2_getChars_ba4f3 125 = .ok (.invokestatic 111, 3) := by decide +kernel
theorem dJ2_getChars_ba4f3_128 : decode cJ2_getChars_ba4f3 128 = .ok (.iload 5, 2) := by decide +kernel
theorem dJ2_getChars_ba4f3_130 : decode cJ2_getChars_ba4f3 130 = .ok (.ireturn, 1) := by decide +kernel
theorem dJ2_checkIndex_2214a_0 : decode cJ2_checkIndex_2214a 0 = .ok (.iload_n 0, 1) := by decide +kernel
theorem dJ2_checkIndex_2214a_1 : decode cJ2_checkIndex_2214a 1 = .ok (.aload_n 1, 1) := by decide +kernel
theorem dJ2_checkIndex_2214a_2 : decode cJ2_checkIndex_2214a 2 = .ok (.invokestatic 48, 3) := by decide +kernel
theorem dJ2_checkIndex_2214a_5 : decode cJ2_checkIndex_2214a 5 = .ok (.invokestatic 414, 3) := by decide +kernel
theorem dJ2_checkIndex_2214a_8 : decode cJ2_checkIndex_2214a 8 = .ok (.return_, 1) := by decide +kernel
theorem dJ2_checkBoundsBeginEnd_d044e_0 : decode cJ2_checkBoundsBeginEnd_d044e 0 = .ok (.iload_n 0, 1) := by decide +kernel
theorem dJ2_checkBoundsBeginEnd_d044e_1 : decode cJ2_checkBoundsBeginEnd_d044e 1 = .ok (.iload_n 1, 1) := by decide +kernel
theorem dJ2_checkBoundsBeginEnd_d044e_2 : decode cJ2_checkBoundsBeginEnd_d044e 2 = .ok (.aload_n 2, 1) := by decide +kernel
theorem dJ2_checkBoundsBeginEnd_d044e_3 : decode cJ2_checkBoundsBeginEnd_d044e 3 = .ok (.invokestatic 48, 3) := by decide +kernel
theorem dJ2_checkBoundsBeginEnd_d044e_6 : decode cJ2_checkBoundsBeginEnd_d044e 6 = .ok (.invokestatic 241, 3) := by decide +kernel
theorem dJ2_checkBoundsBeginEnd_d044e_9 : decode cJ2_checkBoundsBeginEnd_d044e 9 = .ok (.return_, 1) := by decide +kernel
theorem dJ2_checkBoundsOffCount_d044e_0 : decode cJ2_checkBoundsOffCount_d044e 0 = .ok (.iload_n 0, 1) := by decide +kernel
theorem dJ2_checkBoundsOffCount_d044e_1 : decode cJ2_checkBoundsOffCount_d044e 1 = .ok (.iload_n 1, 1) := by decide +kernel
theorem dJ2_checkBoundsOffCount_d044e_2 : decode cJ2_checkBoundsOffCount_d044e 2 = .ok (.aload_n 2, 1) := by decide +kernel
theorem dJ2_checkBoundsOffCount_d044e_3 : decode cJ2_checkBoundsOffCount_d044e 3 = .ok (.invokestatic 48, 3) := by decide +kernel
theorem dJ2_checkBoundsOffCount_d044e_6 : decode cJ2_checkBoundsOffCount_d044e 6 = .ok (.invokestatic 419, 3) := by decide +kernel
theorem dJ2_checkBoundsOffCount_d044e_9 : decode cJ2_checkBoundsOffCount_d044e 9 = .ok (.pop, 1) := by decide +kernel
theorem dJ2_checkBoundsOffCount_d044e_10 : decode cJ2_checkBoundsOffCount_d044e 10 = .ok (.return_, 1) := by decide +kernel
theorem dJ7_fill_d0a16_0 : decode cJ7_fill_d0a16 0 = .ok (.iconst 0, 1) := by decide +kernel
theorem dJ7_fill_d0a16_1 : decode cJ7_fill_d0a16 1 = .ok (.istore_n 3, 1) := by decide +kernel
theorem dJ7_fill_d0a16_2 : decode cJ7_fill_d0a16 2 = .ok (.aload_n 0, 1) := by decide +kernel
theorem dJ7_fill_d0a16_3 : decode cJ7_fill_d0a16 3 = .ok (.arraylength, 1) := by decide +kernel
theorem dJ7_fill_d0a16_4 : decode cJ7_fill_d0a16 4 = .ok (.istore 4, 2) := by decide +kernel
theorem dJ7_fill_d0a16_6 : decode cJ7_fill_d0a16 6 = .ok (.iload_n 3, 1) := by decide +kernel
theorem dJ7_fill_d0a16_7 : decode cJ7_fill_d0a16 7 = .ok (.iload 4, 2) := by decide +kernel
theorem dJ7_fill_d0a16_9 : decode cJ7_fill_d0a16 9 = .ok (.if_icmp .ge 13, 3) := by decide +kernel
theorem dJ7_fill_d0a16_12 : decode cJ7_fill_d0a16 12 = .ok (.aload_n 0, 1) := by decide +kernel
theorem dJ7_fill_d0a16_13 : decode cJ7_fill_d0a16 13 = .ok (.iload_n 3, 1) := by decide +kernel
theorem dJ7_fill_d0a16_14 : decode cJ7_fill_d0a16 14 = .ok (.lload_n 1, 1) := by decide +kernel
theorem dJ7_fill_d0a16_15 : decode cJ7_fill_d0a16 15 = .ok (.lastore, 1) := by decide +kernel
theorem dJ7_fill_d0a16_16 : decode cJ7_fill_d0a16 16 = .ok (.iinc 3 1, 3) := by decide +kernel
theorem dJ7_fill_d0a16_19 : decode cJ7_fill_d0a16 19 = .ok (.goto (-13), 3) := by decide +kernel
theorem dJ7_fill_d0a16_22 : decode cJ7_fill_d0a16 22 = .ok (.return_, 1) := by decide +kernel
theorem dJ7_copyOf_9075b_0 : decode cJ7_copyOf_9075b 0 = .ok (.iload_n 1, 1) := by decide +kernel
theorem dJ7_copyOf_9075b_1 : decode cJ7_copyOf_9075b 1 = .ok (.aload_n 0, 1) := by decide +kernel
theorem dJ7_copyOf_9075b_2 : decode cJ7_copyOf_9075b 2 = .ok (.arraylength, 1) := by decide +kernel
theorem dJ7_copyOf_9075b_3 : decode cJ7_copyOf_9075b 3 = .ok (.if_icmp .ne 11, 3) := by decide +kernel
theorem dJ7_copyOf_9075b_6 : decode cJ7_copyOf_9075b 6 = .ok (.aload_n 0, 1) := by decide +kernel
theorem dJ7_copyOf_9075b_7 : decode cJ7_copyOf_9075b 7 = .ok (.invokevirtual 310, 3) := by decide +kernel
theorem dJ7_copyOf_9075b_10 : decode cJ7_copyOf_9075b 10 = .ok (.checkcast 311, 3) := by decide +kernel
theorem dJ7_copyOf_9075b_13 : decode cJ7_copyOf_9075b 13 = .ok (.areturn, 1) := by decide +kernel
theorem dJ7_copyOf_9075b_14 : decode cJ7_copyOf_9075b 14 = .ok (.iload_n 1, 1) := by decide +kernel
theorem dJ7_copyOf_9075b_15 : decode cJ7_copyOf_9075b 15 = .ok (.newarray .byte, 2) := by decide +kernel
theorem dJ7_copyOf_9075b_17 : decode cJ7_copyOf_9075b 17 = .ok (.astore_n 2, 1) := by decide +kernel
theorem dJ7_copyOf_9075b_18 : decode cJ7_copyOf_9075b 18 = .ok (.aload_n 0, 1) := by decide +kernel
theorem dJ7_copyOf_9075b_19 : decode cJ7_copyOf_9075b 19 = .ok (.iconst 0, 1) := by decide +kernel
theorem dJ7_copyOf_9075b_20 : decode cJ7_copyOf_9075b 20 = .ok (.aload_n 2, 1) := by decide +kernel
theorem dJ7_copyOf_9075b_21 : decode cJ7_copyOf_9075b 21 = .ok (.iconst 0, 1) := by decide +kernel
theorem dJ7_copyOf_9075b_22 : decode cJ7_copyOf_9075b 22 = .ok (.aload_n 0, 1) := by decide +kernel
theorem dJ7_copyOf_9075b_23 : decode cJ7_copyOf_9075b 23 = .ok (.arraylength, 1) := by decide +kernel
theorem dJ7_copyOf_9075b_24 : decode cJ7_copyOf_9075b 24 = .ok (.iload_n 1, 1) := by decide +kernel
theorem dJ7_copyOf_9075b_25 : decode cJ7_copyOf_9075b 25 = .ok (.invokestatic 304, 3) := by decide +kernel
theorem dJ7_copyOf_9075b_28 : decode cJ7_copyOf_9075b 28 = .ok (.invokestatic 150, 3) := by decide +kernel
theorem dJ7_copyOf_9075b_31 : decode cJ7_copyOf_9075b 31 = .ok (.aload_n 2, 1) := by decide +kernel
theorem dJ7_copyOf_9075b_32 : decode cJ7_copyOf_9075b 32 = .ok (.areturn, 1) := by decide +kernel
theorem dJ7_copyOf_59c91_0 : decode cJ7_copyOf_59c91 0 = .ok (.iload_n 1, 1) := by decide +kernel
theorem dJ7_copyOf_59c91_1 : decode cJ7_copyOf_59c91 1 = .ok (.aload_n 0, 1) := by decide +kernel
theorem dJ7_copyOf_59c91_2 : decode cJ7_copyOf_59c91 2 = .ok (.arraylength, 1) := by decide +kernel
theorem dJ7_copyOf_59c91_3 : decode cJ7_copyOf_59c91 3 = .ok (.if_icmp .ne 11, 3) := by decide +kernel
theorem dJ7_copyOf_59c91_6 : decode cJ7_copyOf_59c91 6 = .ok (.aload_n 0, 1) := by decide +kernel
theorem dJ7_copyOf_59c91_7 : decode cJ7_copyOf_59c91 7 = .ok (.invokevirtual 316, 3) := by decide +kernel
theorem dJ7_copyOf_59c91_10 : decode cJ7_copyOf_59c91 10 = .ok (.checkcast 317, 3) := by decide +kernel
theorem dJ7_copyOf_59c91_13 : decode cJ7_copyOf_59c91 13 = .ok (.areturn, 1) := by decide +kernel
theorem dJ7_copyOf_59c91_14 : decode cJ7_copyOf_59c91 14 = .ok (.iload_n 1, 1) := by decide +kernel
theorem dJ7_copyOf_59c91_15 : decode cJ7_copyOf_59c91 15 = .ok (.newarray .int, 2) := by decide +kernel
theorem dJ7_copyOf_59c91_17 : decode cJ7_copyOf_59c91 17 = .ok (.astore_n 2, 1) := by decide +kernel
theorem dJ7_copyOf_59c91_18 : decode cJ7_copyOf_59c91 18 = .ok (.aload_n 0, 1) := by decide +kernel
theorem dJ7_copyOf_59c91_19 : decode cJ7_copyOf_59c91 19 = .ok (.iconst 0, 1) := by decide +kernel
theorem dJ7_copyOf_59c91_20 : decode cJ7_copyOf_59c91 20 = .ok (.aload_n 2, 1) := by decide +kernel
theorem dJ7_copyOf_59c91_21 : decode cJ7_copyOf_59c91 21 = .ok (.iconst 0, 1) := by decide +kernel
theorem dJ7_copyOf_59c91_22 : decode cJ7_copyOf_59c91 22 = .ok (.aload_n 0, 1) := by decide +kernel
theorem dJ7_copyOf_59c91_23 : decode cJ7_copyOf_59c91 23 = .ok (.arraylength, 1) := by decide +kernel
theorem dJ7_copyOf_59c91_24 : decode cJ7_copyOf_59c91 24 = .ok (.iload_n 1, 1) := by decide +kernel
theorem dJ7_copyOf_59c91_25 : decode cJ7_copyOf_59c91 25 = .ok (.invokestatic 304, 3) := by decide +kernel
theorem dJ7_copyOf_59c91_28 : decode cJ7_copyOf_59c91 28 = .ok (.invokestatic 150, 3) := by decide +kernel
theorem dJ7_copyOf_59c91_31 : decode cJ7_copyOf_59c91 31 = .ok (.aload_n 2, 1) := by decide +kernel
theorem dJ7_copyOf_59c91_32 : decode cJ7_copyOf_59c91 32 = .ok (.areturn, 1) := by decide +kernel
theorem dJ7_checkLength_df160_0 : decode cJ7_checkLength_df160 0 = .ok (.iload_n 1, 1) := by decide +kernel
theorem dJ7_checkLength_df160_1 : decode cJ7_checkLength_df160 1 = .ok (.iload_n 0, 1) := by decide +kernel
theorem dJ7_checkLength_df160_2 : decode cJ7_checkLength_df160 2 = .ok (.if_icmp .ge 35, 3) := by decide +kernel
theorem dJ7_checkLength_df160_5 : decode cJ7_checkLength_df160 5 = .ok (.new 43, 3) := by decide +kernel
theorem dJ7_checkLength_df160_8 : decode cJ7_checkLength_df160 8 = .ok (.dup, 1) := by decide +kernel
theorem dJ7_checkLength_df160_9 : decode cJ7_checkLength_df160 9 = .ok (.new 45, 3) := by decide +kernel
theorem dJ7_checkLength_df160_12 : decode cJ7_checkLength_df160 12 = .ok (.dup, 1) := by decide +kernel
theorem dJ7_checkLength_df160_13 : decode cJ7_checkLength_df160 13 = .ok (.invokespecial 47, 3) := by decide +kernel
theorem dJ7_checkLength_df160_16 : decode cJ7_checkLength_df160 16 = .ok (.iload_n 0, 1) := by decide +kernel
theorem dJ7_checkLength_df160_17 : decode cJ7_checkLength_df160 17 = .ok (.invokevirtual 54, 3) := by decide +kernel
theorem dJ7_checkLength_df160_20 : decode cJ7_checkLength_df160 20 = .ok (.ldc_w 337, 3) := by decide +kernel
theorem dJ7_checkLength_df160_23 : decode cJ7_checkLength_df160 23 = .ok (.invokevirtual 50, 3) := by decide +kernel
theorem dJ7_checkLength_df160_26 : decode cJ7_checkLength_df160 26 = .ok (.iload_n 1, 1) := by decide +kernel
theorem dJ7_checkLength_df160_27 : decode cJ7_checkLength_df160 27 = .ok (.invokevirtual 54, 3) := by decide +kernel
theorem dJ7_checkLength_df160_30 : decode cJ7_checkLength_df160 30 = .ok (.invokevirtual 61, 3) := by decide +kernel
theorem dJ7_checkLength_df160_33 : decode cJ7_checkLength_df160 33 = .ok (.invokespecial 65, 3) := by decide +kernel
theorem dJ7_checkLength_df160_36 : decode cJ7_checkLength_df160 36 = .ok (.athrow, 1) := by decide +kernel
theorem dJ7_checkLength_df160_37 : decode cJ7_checkLength_df160 37 = .ok (.return_, 1) := by decide +kernel
theorem dJ7_copyOfRange_39247_0 : decode cJ7_copyOfRange_39247 0 = .ok (.iload_n 1, 1) := by decide +kernel
theorem dJ7_copyOfRange_39247_1 : decode cJ7_copyOfRange_39247 1 = .ok (.ifCond .ne 9, 3) := by decide +kernel
theorem dJ7_copyOfRange_39247_4 : decode cJ7_copyOfRange_39247 4 = .ok (.iload_n 2, 1) := by decide +kernel
theorem dJ7_copyOfRange_39247_5 : decode cJ7_copyOfRange_39247 5 = .ok (.aload_n 0, 1) := by decide +kernel
theorem dJ7_copyOfRange_39247_6 : decode cJ7_copyOfRange_39247 6 = .ok (.arraylength, 1) := by decide +kernel
theorem dJ7_copyOfRange_39247_7 : decode cJ7_copyOfRange_39247 7 = .ok (.if_icmp .eq 10, 3) := by decide +kernel
theorem dJ7_copyOfRange_39247_10 : decode cJ7_copyOfRange_39247 10 = .ok (.aload_n 0, 1) := by decide +kernel
theorem dJ7_copyOfRange_39247_11 : decode cJ7_copyOfRange_39247 11 = .ok (.iload_n 1, 1) := by decide +kernel
theorem dJ7_copyOfRange_39247_12 : decode cJ7_copyOfRange_39247 12 = .ok (.iload_n 2, 1) := by decide +kernel
theorem dJ7_copyOfRange_39247_13 : decode cJ7_copyOfRange_39247 13 = .ok (.invokestatic 339, 3) := by decide +kernel
theorem dJ7_copyOfRange_39247_16 : decode cJ7_copyOfRange_39247 16 = .ok (.areturn, 1) := by decide +kernel
theorem dJ7_copyOfRange_39247_17 : decode cJ7_copyOfRange_39247 17 = .ok (.aload_n 0, 1) := by decide +kernel
theorem dJ7_copyOfRange_39247_18 : decode cJ7_copyOfRange_39247 18 = .ok (.invokevirtual 310, 3) := by decide +kernel
theorem dJ7_copyOfRange_39247_21 : decode cJ7_copyOfRange_39247 21 = .ok (.checkcast 311, 3) := by decide +kernel
theorem dJ7_copyOfRange_39247_24 : decode cJ7_copyOfRange_39247 24 = .ok (.areturn, 1) := by decide +kernel
theorem dJ7_copyOfRangeByte_39247_0 : decode cJ7_copyOfRangeByte_39247 0 = .ok (.iload_n 1, 1) := by decide +kernel
theorem dJ7_copyOfRangeByte_39247_1 : decode cJ7_copyOfRangeByte_39247 1 = .ok (.iload_n 2, 1) := by decide +kernel
theorem dJ7_copyOfRangeByte_39247_2 : decode cJ7_copyOfRangeByte_39247 2 = .ok (.invokestatic 343, 3) := by decide +kernel
theorem dJ7_copyOfRangeByte_39247_5 : decode cJ7_copyOfRangeByte_39247 5 = .ok (.iload_n 2, 1) := by decide +kernel
theorem dJ7_copyOfRangeByte_39247_6 : decode cJ7_copyOfRangeByte_39247 6 = .ok (.iload_n 1, 1) := by decide +kernel
theorem dJ7_copyOfRangeByte_39247_7 : decode cJ7_copyOfRangeByte_39247 7 = .ok (.isub, 1) := by decide +kernel
theorem dJ7_copyOfRangeByte_39247_8 : decode cJ7_copyOfRangeByte_39247 8 = .ok (.istore_n 3, 1) := by decide +kernel
theorem dJ7_copyOfRangeByte_39247_9 : decode cJ7_copyOfRangeByte_39247 9 = .ok (.iload_n 3, 1) := by decide +kernel
theorem dJ7_copyOfRangeByte_39247_10 : decode cJ7_copyOfRangeByte_39247 10 = .ok (.newarray .byte, 2) := by decide +kernel
theorem dJ7_copyOfRangeByte_39247_12 : decode cJ7_copyOfRangeByte_39247 12 = .ok (.astore 4, 2) := by decide +kernel
theorem dJ7_copyOfRangeByte_39247_14 : decode cJ7_copyOfRangeByte_39247 14 = .ok (.aload_n 0, 1) := by decide +kernel
theorem dJ7_copyOfRangeByte_39247_15 : decode cJ7_copyOfRangeByte_39247 15 = .ok (.iload_n 1, 1) := by decide +kernel
theorem dJ7_copyOfRangeByte_39247_16 : decode cJ7_copyOfRangeByte_39247 16 = .ok (.aload 4, 2) := by decide +kernel
theorem dJ7_copyOfRangeByte_39247_18 : decode cJ7_copyOfRangeByte_39247 18 = .ok (.iconst 0, 1) := by decide +kernel
theorem dJ7_copyOfRangeByte_39247_19 : decode cJ7_copyOfRangeByte_39247 19 = .ok (.aload_n 0, 1) := by decide +kernel
theorem dJ7_copyOfRangeByte_39247_20 : decode cJ7_copyOfRangeByte_39247 20 = .ok (.arraylength, 1) := by decide +kernel
theorem dJ7_copyOfRangeByte_39247_21 : decode cJ7_copyOfRangeByte_39247 21 = .ok (.iload_n 1, 1) := by decide +kernel
theorem dJ7_copyOfRangeByte_39247_22 : decode cJ7_copyOfRangeByte_39247 22 = .ok (.isub, 1) := by decide +kernel
theorem dJ7_copyOfRangeByte_39247_23 : decode cJ7_copyOfRangeByte_39247 23 = .ok (.iload_n 3, 1) := by decide +kernel
theorem dJ7_copyOfRangeByte_39247_24 : decode cJ7_copyOfRangeByte_39247 24 = .ok (.invokestatic 304, 3) := by decide +kernel
theorem dJ7_copyOfRangeByte_39247_27 : decode cJ7_copyOfRangeByte_39247 27 = .ok (.invokestatic 150, 3) := by decide +kernel
theorem dJ7_copyOfRangeByte_39247_30 : decode cJ7_copyOfRangeByte_39247 30 = .ok (.aload 4, 2) := by decide +kernel
theorem dJ7_copyOfRangeByte_39247_32 : decode cJ7_copyOfRangeByte_39247 32 = .ok (.areturn, 1) := by decide +kernel
theorem dJ8_newLength_cabcc_0 : decode cJ8_newLength_cabcc 0 = .ok (.iload_n 0, 1) := by decide +kernel
theorem dJ8_newLength_cabcc_1 : decode cJ8_newLength_cabcc 1 = .ok (.iload_n 1, 1) := by decide +kernel
theorem dJ8_newLength_cabcc_2 : decode cJ8_newLength_cabcc 2 = .ok (.iload_n 2, 1) := by decide +kernel
theorem dJ8_newLength_cabcc_3 : decode cJ8_newLength_cabcc 3 = .ok (.invokestatic 194, 3) := by decide +kernel
theorem dJ8_newLength_cabcc_6 : decode cJ8_newLength_cabcc 6 = .ok (.iadd, 1) := by decide +kernel
theorem dJ8_newLength_cabcc_7 : decode cJ8_newLength_cabcc 7 = .ok (.istore_n 3, 1) := by decide +kernel
theorem dJ8_newLength_cabcc_8 : decode cJ8_newLength_cabcc 8 = .ok (.iconst 0, 1) := by decide +kernel
theorem dJ8_newLength_cabcc_9 : decode cJ8_newLength_cabcc 9 = .ok (.iload_n 3, 1) := by decide +kernel
theorem dJ8_newLength_cabcc_10 : decode cJ8_newLength_cabcc 10 = .ok (.if_icmp .ge 11, 3) := by decide +kernel
theorem dJ8_newLength_cabcc_13 : decode cJ8_newLength_cabcc 13 = .ok (.iload_n 3, 1) := by decide +kernel
theorem dJ8_newLength_cabcc_14 : decode cJ8_newLength_cabcc 14 = .ok (.ldc 200, 2) := by decide +kernel
theorem dJ8_newLength_cabcc_16 : decode cJ8_newLength_cabcc 16 = .ok (.if_icmp .gt 5, 3) := by decide +kernel
theorem dJ8_newLength_cabcc_19 : decode cJ8_newLength_cabcc 19 = .ok (.iload_n 3, 1) := by decide +kernel
theorem dJ8_newLength_cabcc_20 : decode cJ8_newLength_cabcc 20 = .ok (.ireturn, 1) := by decide +kernel
theorem dJ8_newLength_cabcc_21 : decode cJ8_newLength_cabcc 21 = .ok (.iload_n 0, 1) := by decide +kernel
theorem dJ8_newLength_cabcc_22 : decode cJ8_newLength_cabcc 22 = .ok (.iload_n 1, 1) := by decide +kernel
theorem dJ8_newLength_cabcc_23 : decode cJ8_newLength_cabcc 23 = .ok (.invokestatic 201, 3) := by decide +kernel
theorem dJ8_newLength_cabcc_26 : decode cJ8_newLength_cabcc 26 = .ok (.ireturn, 1) := by decide +kernel
theorem dJ8_hugeLength_7cf53_0 : decode cJ8_hugeLength_7cf53 0 = .ok (.iload_n 0, 1) := by decide +kernel
theorem dJ8_hugeLength_7cf53_1 : decode cJ8_hugeLength_7cf53 1 = .ok (.iload_n 1, 1) := by decide +kernel
theorem dJ8_hugeLength_7cf53_2 : decode cJ8_hugeLength_7cf53 2 = .ok (.iadd, 1) := by decide +kernel
theorem dJ8_hugeLength_7cf53_3 : decode cJ8_hugeLength_7cf53 3 = .ok (.istore_n 2, 1) := by decide +kernel
theorem dJ8_hugeLength_7cf53_4 : decode cJ8_hugeLength_7cf53 4 = .ok (.iload_n 2, 1) := by decide +kernel
theorem dJ8_hugeLength_7cf53_5 : decode cJ8_hugeLength_7cf53 5 = .ok (.ifCond .ge 44, 3) := by decide +kernel
theorem dJ8_hugeLength_7cf53_8 : decode cJ8_hugeLength_7cf53 8 = .ok (.new 204, 3) := by decide +kernel
theorem dJ8_hugeLength_7cf53_11 : decode cJ8_hugeLength_7cf53 11 = .ok (.dup, 1) := by decide +kernel
theorem dJ8_hugeLength_7cf53_12 : decode cJ8_hugeLength_7cf53 12 = .ok (.new 89, 3) := by decide +kernel
theorem dJ8_hugeLength_7cf53_15 : decode cJ8_hugeLength_7cf53 15 = .ok (.dup, 1) := by decide +kernel
theorem dJ8_hugeLength_7cf53_16 : decode cJ8_hugeLength_7cf53 16 = .ok (.invokespecial 91, 3) := by decide +kernel
theorem dJ8_hugeLength_7cf53_19 : decode cJ8_hugeLength_7cf53 19 = .ok (.ldc 206, 2) := by decide +kernel
theorem dJ8_hugeLength_7cf53_21 : decode cJ8_hugeLength_7cf53 21 = .ok (.invokevirtual 94, 3) := by decide +kernel
theorem dJ8_hugeLength_7cf53_24 : decode cJ8_hugeLength_7cf53 24 = .ok (.iload_n 0, 1) := by decide +kernel
theorem dJ8_hugeLength_7cf53_25 : decode cJ8_hugeLength_7cf53 25 = .ok (.invokevirtual 98, 3) := by decide +kernel
theorem dJ8_hugeLength_7cf53_28 : decode cJ8_hugeLength_7cf53 28 = .ok (.ldc 208, 2) := by decide +kernel
theorem dJ8_hugeLength_7cf53_30 : decode cJ8_hugeLength_7cf53 30 = .ok (.invokevirtual 94, 3) := by decide +kernel
theorem dJ8_hugeLength_7cf53_33 : decode cJ8_hugeLength_7cf53 33 = .ok (.iload_n 1, 1) := by decide +kernel
theorem dJ8_hugeLength_7cf53_34 : decode cJ8_hugeLength_7cf53 34 = .ok (.invokevirtual 98, 3) := by decide +kernel
theorem dJ8_hugeLength_7cf53_37 : decode cJ8_hugeLength_7cf53 37 = .ok (.ldc 210, 2) := by decide +kernel
theorem dJ8_hugeLength_7cf53_39 : decode cJ8_hugeLength_7cf53 39 = .ok (.invokevirtual 94, 3) := by decide +kernel
theorem dJ8_hugeLength_7cf53_42 : decode cJ8_hugeLength_7cf53 42 = .ok (.invokevirtual 101, 3) := by decide +kernel
theorem dJ8_hugeLength_7cf53_45 : decode cJ8_hugeLength_7cf53 45 = .ok (.invokespecial 212, 3) := by decide +kernel
theorem dJ8_hugeLength_7cf53_48 : decode cJ8_hugeLength_7cf53 48 = .ok (.athrow, 1) := by decide +kernel
theorem dJ8_hugeLength_7cf53_49 : decode cJ8_hugeLength_7cf53 49 = .ok (.iload_n 2, 1) := by decide +kernel
theorem dJ8_hugeLength_7cf53_50 : decode cJ8_hugeLength_7cf53 50 = .ok (.ldc 200, 2) := by decide +kernel
theorem dJ8_hugeLength_7cf53_52 : decode cJ8_hugeLength_7cf53 52 = .ok (.if_icmp .gt 6, 3) := by decide +kernel
theorem dJ8_hugeLength_7cf53_55 : decode cJ8_hugeLength_7cf53 55 = .ok (.ldc 200, 2) := by decide +kernel
theorem dJ8_hugeLength_7cf53_57 : decode cJ8_hugeLength_7cf53 57 = .ok (.ireturn, 1) := by decide +kernel
theorem dJ8_hugeLength_7cf53_58 : decode cJ8_hugeLength_7cf53 58 = .ok (.iload_n 2, 1) := by decide +kernel
theorem dJ8_hugeLength_7cf53_59 : decode cJ8_hugeLength_7cf53 59 = .ok (.ireturn, 1) := by decide +kernel
theorem dJ3_checkIndex_8e157_0 : decode cJ3_checkIndex_8e157 0 = .ok (.iload_n 0, 1) := by decide +kernel
theorem dJ3_checkIndex_8e157_1 : decode cJ3_checkIndex_8e157 1 = .ok (.ifCond .lt 8, 3) := by decide +kernel
theorem dJ3_checkIndex_8e157_4 : decode cJ3_checkIndex_8e157 4 = .ok (.iload_n 0, 1) := by decide +kernel
theorem dJ3_checkIndex_8e157_5 : decode cJ3_checkIndex_8e157 5 = .ok (.iload_n 1, 1) := by decide +kernel
theorem dJ3_checkIndex_8e157_6 : decode cJ3_checkIndex_8e157 6 = .ok (.if_icmp .lt 10, 3) := by decide +kernel
theorem dJ3_checkIndex_8e157_9 : decode cJ3_checkIndex_8e157 9 = .ok (.aload_n 2, 1) := by decide +kernel
theorem dJ3_checkIndex_8e157_10 : decode cJ3_checkIndex_8e157 10 = .ok (.iload_n 0, 1) := by decide +kernel
theorem dJ3_checkIndex_8e157_11 : decode cJ3_checkIndex_8e157 11 = .ok (.iload_n 1, 1) := by decide +kernel
theorem dJ3_checkIndex_8e157_12 : decode cJ3_checkIndex_8e157 12 = .ok (.invokestatic 95, 3) := by decide +kernel
theorem dJ3_checkIndex_8e157_15 : decode cJ3_checkIndex_8e157 15 = .ok (.athrow, 1) := by decide +kernel
theorem dJ3_checkIndex_8e157_16 : decode cJ3_checkIndex_8e157 16 = .ok (.iload_n 0, 1) := by decide +kernel
theorem dJ3_checkIndex_8e157_17 : decode cJ3_checkIndex_8e157 17 = .ok (.ireturn, 1) := by decide +kernel
theorem dJ3_checkFromToIndex_8c36e_0 : decode cJ3_checkFromToIndex_8c36e 0 = .ok (.iload_n 0, 1) := by decide +kernel
theorem dJ3_checkFromToIndex_8c36e_1 : decode cJ3_checkFromToIndex_8c36e 1 = .ok (.ifCond .lt 13, 3) := by decide +kernel
theorem dJ3_checkFromToIndex_8c36e_4 : decode cJ3_checkFromToIndex_8c36e 4 = .ok (.iload_n 0, 1) := by decide +kernel
theorem dJ3_checkFromToIndex_8c36e_5 : decode cJ3_checkFromToIndex_8c36e 5 = .ok (.iload_n 1, 1) := by decide +kernel
theorem dJ3_checkFromToIndex_8c36e_6 : decode cJ3_checkFromToIndex_8c36e 6 = .ok (.if_icmp .gt 8, 3) := by decide +kernel
theorem dJ3_checkFromToIndex_8c36e_9 : decode cJ3_checkFromToIndex_8c36e 9 = .ok (.iload_n 1, 1) := by decide +kernel
theorem dJ3_checkFromToIndex_8c36e_10 : decode cJ3_checkFromToIndex_8c36e 10 = .ok (.iload_n 2, 1) := by decide +kernel
theorem dJ3_checkFromToIndex_8c36e_11 : decode cJ3_checkFromToIndex_8c36e 11 = .ok (.if_icmp .le 11, 3) := by decide +kernel
theorem dJ3_checkFromToIndex_8c36e_14 : decode cJ3_checkFromToIndex_8c36e 14 = .ok (.aload_n 3, 1) := by decide +kernel
theorem dJ3_checkFromToIndex_8c36e_15 : decode cJ3_checkFromToIndex_8c36e 15 = .ok (.iload_n 0, 1) := by decide +kernel
theorem dJ3_checkFromToIndex_8c36e_16 : decode cJ3_checkFromToIndex_8c36e 16 = .ok (.iload_n 1, 1) := by decide +kernel
theorem dJ3_checkFromToIndex_8c36e_17 : decode cJ3_checkFromToIndex_8c36e 17 = .ok (.iload_n 2, 1) := by decide +kernel
theorem dJ3_checkFromToIndex_8c36e_18 : decode cJ3_checkFromToIndex_8c36e 18 = .ok (.invokestatic 99, 3) := by decide +kernel
theorem dJ3_checkFromToIndex_8c36e_21 : decode cJ3_checkFromToIndex_8c36e 21 = .ok (.athrow, 1) := by decide +kernel
theorem dJ3_checkFromToIndex_8c36e_22 : decode cJ3_checkFromToIndex_8c36e 22 = .ok (.iload_n 0, 1) := by decide +kernel
theorem dJ3_checkFromToIndex_8c36e_23 : decode cJ3_checkFromToIndex_8c36e 23 = .ok (.ireturn, 1) := by decide +kernel
theorem dJ3_checkFromIndexSize_8c36e_0 : decode cJ3_checkFromIndexSize_8c36e 0 = .ok (.iload_n 2, 1) := by decide +kernel
theorem dJ3_checkFromIndexSize_8c36e_1 : decode cJ3_checkFromIndexSize_8c36e 1 = .ok (.iload_n 0, 1) := by decide +kernel
theorem dJ3_checkFromIndexSize_8c36e_2 : decode cJ3_checkFromIndexSize_8c36e 2 = .ok (.ior, 1) := by decide +kernel
theorem dJ3_checkFromIndexSize_8c36e_3 : decode cJ3_checkFromIndexSize_8c36e 3 = .ok (.iload_n 1, 1) := by decide +kernel
theorem dJ3_checkFromIndexSize_8c36e_4 : decode cJ3_checkFromIndexSize_8c36e 4 = .ok (.ior, 1) := by decide +kernel
theorem dJ3_checkFromIndexSize_8c36e_5 : decode cJ3_checkFromIndexSize_8c36e 5 = .ok (.ifCond .lt 10, 3) := by decide +kernel
theorem dJ3_checkFromIndexSize_8c36e_8 : decode cJ3_checkFromIndexSize_8c36e 8 = .ok (.iload_n 1, 1) := by decide +kernel
theorem dJ3_checkFromIndexSize_8c36e_9 : decode cJ3_checkFromIndexSize_8c36e 9 = .ok (.iload_n 2, 1) := by decide +kernel
theorem dJ3_checkFromIndexSize_8c36e_10 : decode cJ3_checkFromIndexSize_8c36e 10 = .ok (.iload_n 0, 1) := by decide +kernel
theorem dJ3_checkFromIndexSize_8c36e_11 : decode cJ3_checkFromIndexSize_8c36e 11 = .ok (.isub, 1) := by decide +kernel
theorem dJ3_checkFromIndexSize_8c36e_12 : decode cJ3_checkFromIndexSize_8c36e 12 = .ok (.if_icmp .le 11, 3) := by decide +kernel
theorem dJ3_checkFromIndexSize_8c36e_15 : decode cJ3_checkFromIndexSize_8c36e 15 = .ok (.aload_n 3, 1) := by decide +kernel
theorem dJ3_checkFromIndexSize_8c36e_16 : decode cJ3_checkFromIndexSize_8c36e 16 = .ok (.iload_n 0, 1) := by decide +kernel
theorem dJ3_checkFromIndexSize_8c36e_17 : decode cJ3_checkFromIndexSize_8c36e 17 = .ok (.iload_n 1, 1) := by decide +kernel
theorem dJ3_checkFromIndexSize_8c36e_18 : decode cJ3_checkFromIndexSize_8c36e 18 = .ok (.iload_n 2, 1) := by decide +kernel
theorem dJ3_checkFromIndexSize_8c36e_19 : decode cJ3_checkFromIndexSize_8c36e 19 = .ok (.invokestatic 103, 3) := by decide +kernel
theorem dJ3_checkFromIndexSize_8c36e_22 : decode cJ3_checkFromIndexSize_8c36e 22 = .ok (.athrow, 1) := by decide +kernel
theorem dJ3_checkFromIndexSize_8c36e_23 : decode cJ3_checkFromIndexSize_8c36e 23 = .ok (.iload_n 0, 1) := by decide +kernel
theorem dJ3_checkFromIndexSize_8c36e_24 : decode cJ3_checkFromIndexSize_8c36e 24 = .ok (.ireturn, 1) := by decide +kernel
theorem dL_put_0 : decode cL_put 0 = .ok (.aload_n 1, 1) := by decide +kernel
theorem dL_put_1 : decode cL_put 1 = .ok (.iconst 1, 1) := by decide +kernel
theorem dL_put_2 : decode cL_put 2 = .ok (.aload_n 1, 1) := by decide +kernel
theorem dL_put_3 : decode cL_put 3 = .ok (.iconst 0, 1) := by decide +kernel
theorem dL_put_4 : decode cL_put 4 = .ok (.iaload, 1) := by decide +kernel
theorem dL_put_5 : decode cL_put 5 = .ok (.bipush 20, 2) := by decide +kernel
theorem dL_put_7 : decode cL_put 7 = .ok (.irem, 1) := by decide +kernel
theorem dL_put_8 : decode cL_put 8 = .ok (.iconst 4, 1) := by decide +kernel
theorem dL_put_9 : decode cL_put 9 = .ok (.idiv, 1) := by decide +kernel
theorem dL_put_10 : decode cL_put 10 = .ok (.iadd, 1) := by decide +kernel
theorem dL_put_11 : decode cL_put 11 = .ok (.dup2, 1) := by decide +kernel
theorem dL_put_12 : decode cL_put 12 = .ok (.iaload, 1) := by decide +kernel
theorem dL_put_13 : decode cL_put 13 = .ok (.iload_n 2, 1) := by decide +kernel
theorem dL_put_14 : decode cL_put 14 = .ok (.bipush 24, 2) := by decide +kernel
theorem dL_put_16 : decode cL_put 16 = .ok (.bipush 8, 2) := by decide +kernel
theorem dL_put_18 : decode cL_put 18 = .ok (.aload_n 1, 1) := by decide +kernel
theorem dL_put_19 : decode cL_put 19 = .ok (.iconst 0, 1) := by decide +kernel
theorem dL_put_20 : decode cL_put 20 = .ok (.iaload, 1) := by decide +kernel
theorem dL_put_21 : decode cL_put 21 = .ok (.iconst 4, 1) := by decide +kernel
theorem dL_put_22 : decode cL_put 22 = .ok (.irem, 1) := by decide +kernel
theorem dL_put_23 : decode cL_put 23 = .ok (.imul, 1) := by decide +kernel
theorem dL_put_24 : decode cL_put 24 = .ok (.isub, 1) := by decide +kernel
theorem dL_put_25 : decode cL_put 25 = .ok (.ishl, 1) := by decide +kernel
theorem dL_put_26 : decode cL_put 26 = .ok (.ior, 1) := by decide +kernel
theorem dL_put_27 : decode cL_put 27 = .ok (.iastore, 1) := by decide +kernel
theorem dL_put_28 : decode cL_put 28 = .ok (.aload_n 1, 1) := by decide +kernel
theorem dL_put_29 : decode cL_put 29 = .ok (.iconst 0, 1) := by decide +kernel
theorem dL_put_30 : decode cL_put 30 = .ok (.dup2, 1) := by decide +kernel
theorem dL_put_31 : decode cL_put 31 = .ok (.iaload, 1) := by decide +kernel
theorem dL_put_32 : decode cL_put 32 = .ok (.iconst 1, 1) := by decide +kernel
theorem dL_put_33 : decode cL_put 33 = .ok (.iadd, 1) := by decide +kernel
theorem dL_put_34 : decode cL_put 34 = .ok (.iastore, 1) := by decide +kernel
theorem dL_put_35 : decode cL_put 35 = .ok (.aload_n 1, 1) := by decide +kernel
theorem dL_put_36 : decode cL_put 36 = .ok (.iconst 0, 1) := by decide +kernel
theorem dL_put_37 : decode cL_put 37 = .ok (.iaload, 1) := by decide +kernel
theorem dL_put_38 : decode cL_put 38 = .ok (.bipush 20, 2) := by decide +kernel
theorem dL_put_40 : decode cL_put 40 = .ok (.irem, 1) := by decide +kernel
theorem dL_put_41 : decode cL_put 41 = .ok (.ifCond .ne 8, 3) := by decide +kernel
theorem dL_put_44 : decode cL_put 44 = .ok (.aload_n 0, 1) := by decide +kernel
theorem dL_put_45 : decode cL_put 45 = .ok (.aload_n 1, 1) := by decide +kernel
theorem dL_put_46 : decode cL_put 46 = .ok (.invokestatic 7, 3) := by decide +kernel
theorem dL_put_49 : decode cL_put 49 = .ok (.return_, 1) := by decide +kernel
theorem dL_flush_0 : decode cL_flush 0 = .ok (.aload_n 0, 1) := by decide +kernel
theorem dL_flush_1 : decode cL_flush 1 = .ok (.aload_n 1, 1) := by decide +kernel
theorem dL_flush_2 : decode cL_flush 2 = .ok (.iconst 1, 1) := by decide +kernel
theorem dL_flush_3 : decode cL_flush 3 = .ok (.iaload, 1) := by decide +kernel
theorem dL_flush_4 : decode cL_flush 4 = .ok (.aload_n 1, 1) := by decide +kernel
theorem dL_flush_5 : decode cL_flush 5 = .ok (.iconst 2, 1) := by decide +kernel
theorem dL_flush_6 : decode cL_flush 6 = .ok (.iaload, 1) := by decide +kernel
theorem dL_flush_7 : decode cL_flush 7 = .ok (.aload_n 1, 1) := by decide +kernel
theorem dL_flush_8 : decode cL_flush 8 = .ok (.iconst 3, 1) := by decide +kernel
theorem dL_flush_9 : decode cL_flush 9 = .ok (.iaload, 1) := by decide +kernel
theorem dL_flush_10 : decode cL_flush 10 = .ok (.aload_n 1, 1) := by decide +kernel
theorem dL_flush_11 : decode cL_flush 11 = .ok (.iconst 4, 1) := by decide +kernel
theorem dL_flush_12 : decode cL_flush 12 = .ok (.iaload, 1) := by decide +kernel
theorem dL_flush_13 : decode cL_flush 13 = .ok (.aload_n 1, 1) := by decide +kernel
theorem dL_flush_14 : decode cL_flush 14 = .ok (.iconst 5, 1) := by decide +kernel
theorem dL_flush_15 : decode cL_flush 15 = .ok (.iaload, 1) := by decide +kernel
theorem dL_flush_16 : decode cL_flush 16 = .ok (.invokevirtual 13, 3) := by decide +kernel
theorem dL_flush_19 : decode cL_flush 19 = .ok (.pop, 1) := by decide +kernel
theorem dL_flush_20 : decode cL_flush 20 = .ok (.iconst 1, 1) := by decide +kernel
theorem dL_flush_21 : decode cL_flush 21 = .ok (.istore_n 2, 1) := by decide +kernel
theorem dL_flush_22 : decode cL_flush 22 = .ok (.iload_n 2, 1) := by decide +kernel
theorem dL_flush_23 : decode cL_flush 23 = .ok (.bipush 6, 2) := by decide +kernel
theorem dL_flush_25 : decode cL_flush 25 = .ok (.if_icmp .ge 13, 3) := by decide +kernel
theorem dL_flush_28 : decode cL_flush 28 = .ok (.aload_n 1, 1) := by decide +kernel
theorem dL_flush_29 : decode cL_flush 29 = .ok (.iload_n 2, 1) := by decide +kernel
theorem dL_flush_30 : decode cL_flush 30 = .ok (.iconst 0, 1) := by decide +kernel
theorem dL_flush_31 : decode cL_flush 31 = .ok (.iastore, 1) := by decide +kernel
theorem dL_flush_32 : decode cL_flush 32 = .ok (.iinc 2 1, 3) := by decide +kernel
theorem dL_flush_35 : decode cL_flush 35 = .ok (.goto (-13), 3) := by decide +kernel
theorem dL_flush_38 : decode cL_flush 38 = .ok (.return_, 1) := by decide +kernel
theorem dL_loadText_0 : decode cL_loadText 0 = .ok (.aload_n 1, 1) := by decide +kernel
theorem dL_loadText_1 : decode cL_loadText 1 = .ok (.iconst 0, 1) := by decide +kernel
theorem dL_loadText_2 : decode cL_loadText 2 = .ok (.iaload, 1) := by decide +kernel
theorem dL_loadText_3 : decode cL_loadText 3 = .ok (.istore_n 2, 1) := by decide +kernel
theorem dL_loadText_4 : decode cL_loadText 4 = .ok (.iload_n 2, 1) := by decide +kernel
theorem dL_loadText_5 : decode cL_loadText 5 = .ok (.bipush 20, 2) := by decide +kernel
theorem dL_loadText_7 : decode cL_loadText 7 = .ok (.irem, 1) := by decide +kernel
theorem dL_loadText_8 : decode cL_loadText 8 = .ok (.ifCond .le 8, 3) := by decide +kernel
theorem dL_loadText_11 : decode cL_loadText 11 = .ok (.aload_n 0, 1) := by decide +kernel
theorem dL_loadText_12 : decode cL_loadText 12 = .ok (.aload_n 1, 1) := by decide +kernel
theorem dL_loadText_13 : decode cL_loadText 13 = .ok (.invokestatic 7, 3) := by decide +kernel
theorem dL_loadText_16 : decode cL_loadText 16 = .ok (.aload_n 1, 1) := by decide +kernel
theorem dL_loadText_17 : decode cL_loadText 17 = .ok (.iconst 0, 1) := by decide +kernel
theorem dL_loadText_18 : decode cL_loadText 18 = .ok (.iconst 0, 1) := by decide +kernel
theorem dL_loadText_19 : decode cL_loadText 19 = .ok (.iastore, 1) := by decide +kernel
theorem dL_loadText_20 : decode cL_loadText 20 = .ok (.aload_n 0, 1) := by decide +kernel
theorem dL_loadText_21 : decode cL_loadText 21 = .ok (.iload_n 2, 1) := by decide +kernel
theorem dL_loadText_22 : decode cL_loadText 22 = .ok (.invokestatic 19, 3) := by decide +kernel
theorem dL_loadText_25 : decode cL_loadText 25 = .ok (.ireturn, 1) := by decide +kernel
theorem dL_write_0 : decode cL_write 0 = .ok (.iconst 0, 1) := by decide +kernel
theorem dL_write_1 : decode cL_write 1 = .ok (.istore_n 3, 1) := by decide +kernel
theorem dL_write_2 : decode cL_write 2 = .ok (.iload_n 3, 1) := by decide +kernel
theorem dL_write_3 : decode cL_write 3 = .ok (.aload_n 2, 1) := by decide +kernel
theorem dL_write_4 : decode cL_write 4 = .ok (.invokevirtual 23, 3) := by decide +kernel
theorem dL_write_7 : decode cL_write 7 = .ok (.if_icmp .ge 19, 3) := by decide +kernel
theorem dL_write_10 : decode cL_write 10 = .ok (.aload_n 0, 1) := by decide +kernel
theorem dL_write_11 : decode cL_write 11 = .ok (.aload_n 1, 1) := by decide +kernel
theorem dL_write_12 : decode cL_write 12 = .ok (.aload_n 2, 1) := by decide +kernel
theorem dL_write_13 : decode cL_write 13 = .ok (.iload_n 3, 1) := by decide +kernel
theorem dL_write_14 : decode cL_write 14 = .ok (.invokevirtual 29, 3) := by decide +kernel
theorem dL_write_17 : decode cL_write 17 = .ok (.invokestatic 33, 3) := by decide +kernel
theorem dL_write_20 : decode cL_write 20 = .ok (.iinc 3 1, 3) := by decide +kernel
theorem dL_write_23 : decode cL_write 23 = .ok (.goto (-21), 3) := by decide +kernel
theorem dL_write_26 : decode cL_write 26 = .ok (.return_, 1) := by decide +kernel
theorem dL_writeNumber_0 : decode cL_writeNumber 0 = .ok (.iconst 1, 1) := by decide +kernel
theorem dL_writeNumber_1 : decode cL_writeNumber 1 = .ok (.istore_n 3, 1) := by decide +kernel
theorem dL_writeNumber_2 : decode cL_writeNumber 2 = .ok (.iload_n 3, 1) := by decide +kernel
theorem dL_writeNumber_3 : decode cL_writeNumber 3 = .ok (.iload_n 2, 1) := by decide +kernel
theorem dL_writeNumber_4 : decode cL_writeNumber 4 = .ok (.bipush 10, 2) := by decide +kernel
theorem dL_writeNumber_6 : decode cL_writeNumber 6 = .ok (.idiv, 1) := by decide +kernel
theorem dL_writeNumber_7 : decode cL_writeNumber 7 = .ok (.if_icmp .gt 11, 3) := by decide +kernel
theorem dL_writeNumber_10 : decode cL_writeNumber 10 = .ok (.iload_n 3, 1) := by decide +kernel
theorem dL_writeNumber_11 : decode cL_writeNumber 11 = .ok (.bipush 10, 2) := by decide +kernel
theorem dL_writeNumber_13 : decode cL_writeNumber 13 = .ok (.imul, 1) := by decide +kernel
theorem dL_writeNumber_14 : decode cL_writeNumber 14 = .ok (.istore_n 3, 1) := by decide +kernel
theorem dL_writeNumber_15 : decode cL_writeNumber 15 = .ok (.goto (-13), 3) := by decide +kernel
theorem dL_writeNumber_18 : decode cL_writeNumber 18 = .ok (.iload_n 3, 1) := by decide +kernel
theorem dL_writeNumber_19 : decode cL_writeNumber 19 = .ok (.ifCond .le 25, 3) := by decide +kernel
theorem dL_writeNumber_22 : decode cL_writeNumber 22 = .ok (.aload_n 0, 1) := by decide +kernel
theorem dL_writeNumber_23 : decode cL_writeNumber 23 = .ok (.aload_n 1, 1) := by decide +kernel
theorem dL_writeNumber_24 : decode cL_writeNumber 24 = .ok (.bipush 48, 2) := by decide +kernel
theorem dL_writeNumber_26 : decode cL_writeNumber 26 = .ok (.iload_n 2, 1) := by decide +kernel
theorem dL_writeNumber_27 : decode cL_writeNumber 27 = .ok (.iload_n 3, 1) := by decide +kernel
theorem dL_writeNumber_28 : decode cL_writeNumber 28 = .ok (.idiv, 1) := by decide +kernel
theorem dL_writeNumber_29 : decode cL_writeNumber 29 = .ok (.bipush 10, 2) := by decide +kernel
theorem dL_writeNumber_31 : decode cL_writeNumber 31 = .ok (.irem, 1) := by decide +kernel
theorem dL_writeNumber_32 : decode cL_writeNumber 32 = .ok (.iadd, 1) := by decide +kernel
theorem dL_writeNumber_33 : decode cL_writeNumber 33 = .ok (.invokestatic 33, 3) := by decide +kernel
theorem dL_writeNumber_36 : decode cL_writeNumber 36 = .ok (.iload_n 3, 1) := by decide +kernel
theorem dL_writeNumber_37 : decode cL_writeNumber 37 = .ok (.bipush 10, 2) := by decide +kernel
theorem dL_writeNumber_39 : decode cL_writeNumber 39 = .ok (.idiv, 1) := by decide +kernel
theorem dL_writeNumber_40 : decode cL_writeNumber 40 = .ok (.istore_n 3, 1) := by decide +kernel
theorem dL_writeNumber_41 : decode cL_writeNumber 41 = .ok (.goto (-23), 3) := by decide +kernel
theorem dL_writeNumber_44 : decode cL_writeNumber 44 = .ok (.return_, 1) := by decide +kernel
theorem dL_load_0 : decode cL_load 0 = .ok (.aload_n 0, 1) := by decide +kernel
theorem dL_load_1 : decode cL_load 1 = .ok (.iload_n 1, 1) := by decide +kernel
theorem dL_load_2 : decode cL_load 2 = .ok (.invokevirtual 37, 3) := by decide +kernel
theorem dL_load_5 : decode cL_load 5 = .ok (.ireturn, 1) := by decide +kernel
theorem dL_load_6 : decode cL_load 6 = .ok (.astore_n 2, 1) := by decide +kernel
theorem dL_load_7 : decode cL_load 7 = .ok (.ldc 42, 2) := by decide +kernel
theorem dL_load_9 : decode cL_load 9 = .ok (.ireturn, 1) := by decide +kernel
theorem dL_state_0 : decode cL_state 0 = .ok (.aload_n 0, 1) := by decide +kernel
theorem dL_state_1 : decode cL_state 1 = .ok (.iload_n 1, 1) := by decide +kernel
theorem dL_state_2 : decode cL_state 2 = .ok (.invokevirtual 43, 3) := by decide +kernel
theorem dL_state_5 : decode cL_state 5 = .ok (.ireturn, 1) := by decide +kernel
theorem dL_state_6 : decode cL_state 6 = .ok (.astore_n 2, 1) := by decide +kernel
theorem dL_state_7 : decode cL_state 7 = .ok (.ldc 42, 2) := by decide +kernel
theorem dL_state_9 : decode cL_state 9 = .ok (.ireturn, 1) := by decide +kernel
theorem dL_player_0 : decode cL_player 0 = .ok (.aload_n 0, 1) := by decide +kernel
theorem dL_player_1 : decode cL_player 1 = .ok (.iload_n 1, 1) := by decide +kernel
theorem dL_player_2 : decode cL_player 2 = .ok (.iload_n 2, 1) := by decide +kernel
theorem dL_player_3 : decode cL_player 3 = .ok (.invokevirtual 46, 3) := by decide +kernel
theorem dL_player_6 : decode cL_player 6 = .ok (.ireturn, 1) := by decide +kernel
theorem dL_player_7 : decode cL_player 7 = .ok (.astore_n 3, 1) := by decide +kernel
theorem dL_player_8 : decode cL_player 8 = .ok (.ldc 52, 2) := by decide +kernel
theorem dL_player_10 : decode cL_player 10 = .ok (.ireturn, 1) := by decide +kernel
theorem dL_player_11 : decode cL_player 11 = .ok (.astore_n 3, 1) := by decide +kernel
theorem dL_player_12 : decode cL_player 12 = .ok (.ldc 42, 2) := by decide +kernel
theorem dL_player_14 : decode cL_player 14 = .ok (.ireturn, 1) := by decide +kernel
theorem dL_card_0 : decode cL_card 0 = .ok (.aload_n 0, 1) := by decide +kernel
theorem dL_card_1 : decode cL_card 1 = .ok (.iload_n 1, 1) := by decide +kernel
theorem dL_card_2 : decode cL_card 2 = .ok (.iload_n 2, 1) := by decide +kernel
theorem dL_card_3 : decode cL_card 3 = .ok (.iload_n 3, 1) := by decide +kernel
theorem dL_card_4 : decode cL_card 4 = .ok (.invokevirtual 53, 3) := by decide +kernel
theorem dL_card_7 : decode cL_card 7 = .ok (.ireturn, 1) := by decide +kernel
theorem dL_card_8 : decode cL_card 8 = .ok (.astore 4, 2) := by decide +kernel
theorem dL_card_10 : decode cL_card 10 = .ok (.ldc 52, 2) := by decide +kernel
theorem dL_card_12 : decode cL_card 12 = .ok (.ireturn, 1) := by decide +kernel
theorem dL_card_13 : decode cL_card 13 = .ok (.astore 4, 2) := by decide +kernel
theorem dL_card_15 : decode cL_card 15 = .ok (.ldc 59, 2) := by decide +kernel
theorem dL_card_17 : decode cL_card 17 = .ok (.ireturn, 1) := by decide +kernel
theorem dL_card_18 : decode cL_card 18 = .ok (.astore 4, 2) := by decide +kernel
theorem dL_card_20 : decode cL_card 20 = .ok (.ldc 42, 2) := by decide +kernel
theorem dL_card_22 : decode cL_card 22 = .ok (.ireturn, 1) := by decide +kernel
theorem dL_bid_0 : decode cL_bid 0 = .ok (.aload_n 0, 1) := by decide +kernel
theorem dL_bid_1 : decode cL_bid 1 = .ok (.iload_n 1, 1) := by decide +kernel
theorem dL_bid_2 : decode cL_bid 2 = .ok (.iload_n 2, 1) := by decide +kernel
theorem dL_bid_3 : decode cL_bid 3 = .ok (.invokevirtual 60, 3) := by decide +kernel
theorem dL_bid_6 : decode cL_bid 6 = .ok (.ireturn, 1) := by decide +kernel
theorem dL_bid_7 : decode cL_bid 7 = .ok (.astore_n 3, 1) := by decide +kernel
theorem dL_bid_8 : decode cL_bid 8 = .ok (.ldc 59, 2) := by decide +kernel
theorem dL_bid_10 : decode cL_bid 10 = .ok (.ireturn, 1) := by decide +kernel
theorem dL_bid_11 : decode cL_bid 11 = .ok (.astore_n 3, 1) := by decide +kernel
theorem dL_bid_12 : decode cL_bid 12 = .ok (.ldc 42, 2) := by decide +kernel
theorem dL_bid_14 : decode cL_bid 14 = .ok (.ireturn, 1) := by decide +kernel
theorem dL_productOf_0 : decode cL_productOf 0 = .ok (.aload_n 0, 1) := by decide +kernel
theorem dL_productOf_1 : decode cL_productOf 1 = .ok (.iload_n 1, 1) := by decide +kernel
theorem dL_productOf_2 : decode cL_productOf 2 = .ok (.iload_n 2, 1) := by decide +kernel
theorem dL_productOf_3 : decode cL_productOf 3 = .ok (.invokevirtual 63, 3) := by decide +kernel
theorem dL_productOf_6 : decode cL_productOf 6 = .ok (.ireturn, 1) := by decide +kernel
theorem dL_productOf_7 : decode cL_productOf 7 = .ok (.astore_n 3, 1) := by decide +kernel
theorem dL_productOf_8 : decode cL_productOf 8 = .ok (.ldc 42, 2) := by decide +kernel
theorem dL_productOf_10 : decode cL_productOf 10 = .ok (.ireturn, 1) := by decide +kernel
theorem dL_order_0 : decode cL_order 0 = .ok (.aload_n 0, 1) := by decide +kernel
theorem dL_order_1 : decode cL_order 1 = .ok (.iload_n 1, 1) := by decide +kernel
theorem dL_order_2 : decode cL_order 2 = .ok (.invokevirtual 72, 3) := by decide +kernel
theorem dL_order_5 : decode cL_order 5 = .ok (.ireturn, 1) := by decide +kernel
theorem dL_order_6 : decode cL_order 6 = .ok (.astore_n 2, 1) := by decide +kernel
theorem dL_order_7 : decode cL_order 7 = .ok (.ldc 42, 2) := by decide +kernel
theorem dL_order_9 : decode cL_order 9 = .ok (.ireturn, 1) := by decide +kernel
theorem dL_reach_0 : decode cL_reach 0 = .ok (.aload_n 0, 1) := by decide +kernel
theorem dL_reach_1 : decode cL_reach 1 = .ok (.iload_n 1, 1) := by decide +kernel
theorem dL_reach_2 : decode cL_reach 2 = .ok (.invokevirtual 75, 3) := by decide +kernel
theorem dL_reach_5 : decode cL_reach 5 = .ok (.ireturn, 1) := by decide +kernel
theorem dL_reach_6 : decode cL_reach 6 = .ok (.astore_n 2, 1) := by decide +kernel
theorem dL_reach_7 : decode cL_reach 7 = .ok (.ldc 52, 2) := by decide +kernel
theorem dL_reach_9 : decode cL_reach 9 = .ok (.ireturn, 1) := by decide +kernel
theorem dL_fewest_0 : decode cL_fewest 0 = .ok (.aload_n 0, 1) := by decide +kernel
theorem dL_fewest_1 : decode cL_fewest 1 = .ok (.iload_n 1, 1) := by decide +kernel
theorem dL_fewest_2 : decode cL_fewest 2 = .ok (.invokevirtual 85, 3) := by decide +kernel
theorem dL_fewest_5 : decode cL_fewest 5 = .ok (.ireturn, 1) := by decide +kernel
theorem dL_fewest_6 : decode cL_fewest 6 = .ok (.astore_n 2, 1) := by decide +kernel
theorem dL_fewest_7 : decode cL_fewest 7 = .ok (.ldc 52, 2) := by decide +kernel
theorem dL_fewest_9 : decode cL_fewest 9 = .ok (.ireturn, 1) := by decide +kernel
theorem dL_play_0 : decode cL_play 0 = .ok (.aload_n 0, 1) := by decide +kernel
theorem dL_play_1 : decode cL_play 1 = .ok (.iload_n 1, 1) := by decide +kernel
theorem dL_play_2 : decode cL_play 2 = .ok (.invokevirtual 94, 3) := by decide +kernel
theorem dL_play_5 : decode cL_play 5 = .ok (.ireturn, 1) := by decide +kernel
theorem dL_play_6 : decode cL_play 6 = .ok (.astore_n 2, 1) := by decide +kernel
theorem dL_play_7 : decode cL_play 7 = .ok (.ldc 99, 2) := by decide +kernel
theorem dL_play_9 : decode cL_play 9 = .ok (.ireturn, 1) := by decide +kernel
theorem dL_play_10 : decode cL_play 10 = .ok (.astore_n 2, 1) := by decide +kernel
theorem dL_play_11 : decode cL_play 11 = .ok (.ldc 59, 2) := by decide +kernel
theorem dL_play_13 : decode cL_play 13 = .ok (.ireturn, 1) := by decide +kernel
theorem dL_cancel_0 : decode cL_cancel 0 = .ok (.aload_n 0, 1) := by decide +kernel
theorem dL_cancel_1 : decode cL_cancel 1 = .ok (.iload_n 1, 1) := by decide +kernel
theorem dL_cancel_2 : decode cL_cancel 2 = .ok (.iload_n 2, 1) := by decide +kernel
theorem dL_cancel_3 : decode cL_cancel 3 = .ok (.invokevirtual 100, 3) := by decide +kernel
theorem dL_cancel_6 : decode cL_cancel 6 = .ok (.ireturn, 1) := by decide +kernel
theorem dL_cancel_7 : decode cL_cancel 7 = .ok (.astore_n 3, 1) := by decide +kernel
theorem dL_cancel_8 : decode cL_cancel 8 = .ok (.ldc 99, 2) := by decide +kernel
theorem dL_cancel_10 : decode cL_cancel 10 = .ok (.ireturn, 1) := by decide +kernel
theorem dL_cancel_11 : decode cL_cancel 11 = .ok (.astore_n 3, 1) := by decide +kernel
theorem dL_cancel_12 : decode cL_cancel 12 = .ok (.ldc 59, 2) := by decide +kernel
theorem dL_cancel_14 : decode cL_cancel 14 = .ok (.ireturn, 1) := by decide +kernel
theorem dL_pass_0 : decode cL_pass 0 = .ok (.aload_n 0, 1) := by decide +kernel
theorem dL_pass_1 : decode cL_pass 1 = .ok (.invokevirtual 103, 3) := by decide +kernel
theorem dL_pass_4 : decode cL_pass 4 = .ok (.ireturn, 1) := by decide +kernel
theorem dL_pass_5 : decode cL_pass 5 = .ok (.astore_n 1, 1) := by decide +kernel
theorem dL_pass_6 : decode cL_pass 6 = .ok (.ldc 99, 2) := by decide +kernel
theorem dL_pass_8 : decode cL_pass 8 = .ok (.ireturn, 1) := by decide +kernel
theorem dL_give_0 : decode cL_give 0 = .ok (.aload_n 0, 1) := by decide +kernel
theorem dL_give_1 : decode cL_give 1 = .ok (.iload_n 1, 1) := by decide +kernel
theorem dL_give_2 : decode cL_give 2 = .ok (.iload_n 2, 1) := by decide +kernel
theorem dL_give_3 : decode cL_give 3 = .ok (.iload_n 3, 1) := by decide +kernel
theorem dL_give_4 : decode cL_give 4 = .ok (.invokevirtual 106, 3) := by decide +kernel
theorem dL_give_7 : decode cL_give 7 = .ok (.ireturn, 1) := by decide +kernel
theorem dL_give_8 : decode cL_give 8 = .ok (.astore 4, 2) := by decide +kernel
theorem dL_give_10 : decode cL_give 10 = .ok (.ldc 52, 2) := by decide +kernel
theorem dL_give_12 : decode cL_give 12 = .ok (.ireturn, 1) := by decide +kernel
theorem dL_give_13 : decode cL_give 13 = .ok (.astore 4, 2) := by decide +kernel
theorem dL_give_15 : decode cL_give 15 = .ok (.ldc 42, 2) := by decide +kernel
theorem dL_give_17 : decode cL_give 17 = .ok (.ireturn, 1) := by decide +kernel
theorem dL_give_18 : decode cL_give 18 = .ok (.astore 4, 2) := by decide +kernel
theorem dL_give_20 : decode cL_give 20 = .ok (.ldc 99, 2) := by decide +kernel
theorem dL_give_22 : decode cL_give 22 = .ok (.ireturn, 1) := by decide +kernel
theorem dL_discard_0 : decode cL_discard 0 = .ok (.aload_n 0, 1) := by decide +kernel
theorem dL_discard_1 : decode cL_discard 1 = .ok (.iload_n 1, 1) := by decide +kernel
theorem dL_discard_2 : decode cL_discard 2 = .ok (.iload_n 2, 1) := by decide +kernel
theorem dL_discard_3 : decode cL_discard 3 = .ok (.invokevirtual 109, 3) := by decide +kernel
theorem dL_discard_6 : decode cL_discard 6 = .ok (.ireturn, 1) := by decide +kernel
theorem dL_discard_7 : decode cL_discard 7 = .ok (.astore_n 3, 1) := by decide +kernel
theorem dL_discard_8 : decode cL_discard 8 = .ok (.ldc 52, 2) := by decide +kernel
theorem dL_discard_10 : decode cL_discard 10 = .ok (.ireturn, 1) := by decide +kernel
theorem dL_discard_11 : decode cL_discard 11 = .ok (.astore_n 3, 1) := by decide +kernel
theorem dL_discard_12 : decode cL_discard 12 = .ok (.ldc 59, 2) := by decide +kernel
theorem dL_discard_14 : decode cL_discard 14 = .ok (.ireturn, 1) := by decide +kernel
theorem dL_neutral_0 : decode cL_neutral 0 = .ok (.iload_n 0, 1) := by decide +kernel
theorem dL_neutral_1 : decode cL_neutral 1 = .ok (.newarray .int, 2) := by decide +kernel
theorem dL_neutral_3 : decode cL_neutral 3 = .ok (.astore_n 1, 1) := by decide +kernel
theorem dL_neutral_4 : decode cL_neutral 4 = .ok (.iconst 0, 1) := by decide +kernel
theorem dL_neutral_5 : decode cL_neutral 5 = .ok (.istore_n 2, 1) := by decide +kernel
theorem dL_neutral_6 : decode cL_neutral 6 = .ok (.iload_n 2, 1) := by decide +kernel
theorem dL_neutral_7 : decode cL_neutral 7 = .ok (.iload_n 0, 1) := by decide +kernel
theorem dL_neutral_8 : decode cL_neutral 8 = .ok (.if_icmp .ge 13, 3) := by decide +kernel
theorem dL_neutral_11 : decode cL_neutral 11 = .ok (.aload_n 1, 1) := by decide +kernel
theorem dL_neutral_12 : decode cL_neutral 12 = .ok (.iload_n 2, 1) := by decide +kernel
theorem dL_neutral_13 : decode cL_neutral 13 = .ok (.iload_n 2, 1) := by decide +kernel
theorem dL_neutral_14 : decode cL_neutral 14 = .ok (.iastore, 1) := by decide +kernel
theorem dL_neutral_15 : decode cL_neutral 15 = .ok (.iinc 2 1, 3) := by decide +kernel
theorem dL_neutral_18 : decode cL_neutral 18 = .ok (.goto (-12), 3) := by decide +kernel
theorem dL_neutral_21 : decode cL_neutral 21 = .ok (.aload_n 1, 1) := by decide +kernel
theorem dL_neutral_22 : decode cL_neutral 22 = .ok (.areturn, 1) := by decide +kernel
theorem dL_times_0 : decode cL_times 0 = .ok (.aload_n 0, 1) := by decide +kernel
theorem dL_times_1 : decode cL_times 1 = .ok (.arraylength, 1) := by decide +kernel
theorem dL_times_2 : decode cL_times 2 = .ok (.newarray .int, 2) := by decide +kernel
theorem dL_times_4 : decode cL_times 4 = .ok (.astore_n 2, 1) := by decide +kernel
theorem dL_times_5 : decode cL_times 5 = .ok (.iconst 0, 1) := by decide +kernel
theorem dL_times_6 : decode cL_times 6 = .ok (.istore_n 3, 1) := by decide +kernel
theorem dL_times_7 : decode cL_times 7 = .ok (.iload_n 3, 1) := by decide +kernel
theorem dL_times_8 : decode cL_times 8 = .ok (.aload_n 0, 1) := by decide +kernel
theorem dL_times_9 : decode cL_times 9 = .ok (.arraylength, 1) := by decide +kernel
theorem dL_times_10 : decode cL_times 10 = .ok (.if_icmp .ge 17, 3) := by decide +kernel
theorem dL_times_13 : decode cL_times 13 = .ok (.aload_n 2, 1) := by decide +kernel
theorem dL_times_14 : decode cL_times 14 = .ok (.iload_n 3, 1) := by decide +kernel
theorem dL_times_15 : decode cL_times 15 = .ok (.aload_n 1, 1) := by decide +kernel
theorem dL_times_16 : decode cL_times 16 = .ok (.aload_n 0, 1) := by decide +kernel
theorem dL_times_17 : decode cL_times 17 = .ok (.iload_n 3, 1) := by decide +kernel
theorem dL_times_18 : decode cL_times 18 = .ok (.iaload, 1) := by decide +kernel
theorem dL_times_19 : decode cL_times 19 = .ok (.iaload, 1) := by decide +kernel
theorem dL_times_20 : decode cL_times 20 = .ok (.iastore, 1) := by decide +kernel
theorem dL_times_21 : decode cL_times 21 = .ok (.iinc 3 1, 3) := by decide +kernel
theorem dL_times_24 : decode cL_times 24 = .ok (.goto (-17), 3) := by decide +kernel
theorem dL_times_27 : decode cL_times 27 = .ok (.aload_n 2, 1) := by decide +kernel
theorem dL_times_28 : decode cL_times 28 = .ok (.areturn, 1) := by decide +kernel
theorem dL_number_0 : decode cL_number 0 = .ok (.iconst 0, 1) := by decide +kernel
theorem dL_number_1 : decode cL_number 1 = .ok (.istore_n 1, 1) := by decide +kernel
theorem dL_number_2 : decode cL_number 2 = .ok (.aload_n 0, 1) := by decide +kernel
theorem dL_number_3 : decode cL_number 3 = .ok (.astore_n 2, 1) := by decide +kernel
theorem dL_number_4 : decode cL_number 4 = .ok (.aload_n 2, 1) := by decide +kernel
theorem dL_number_5 : decode cL_number 5 = .ok (.arraylength, 1) := by decide +kernel
theorem dL_number_6 : decode cL_number 6 = .ok (.istore_n 3, 1) := by decide +kernel
theorem dL_number_7 : decode cL_number 7 = .ok (.iconst 0, 1) := by decide +kernel
theorem dL_number_8 : decode cL_number 8 = .ok (.istore 4, 2) := by decide +kernel
theorem dL_number_10 : decode cL_number 10 = .ok (.iload 4, 2) := by decide +kernel
theorem dL_number_12 : decode cL_number 12 = .ok (.iload_n 3, 1) := by decide +kernel
theorem dL_number_13 : decode cL_number 13 = .ok (.if_icmp .ge 25, 3) := by decide +kernel
theorem dL_number_16 : decode cL_number 16 = .ok (.aload_n 2, 1) := by decide +kernel
theorem dL_number_17 : decode cL_number 17 = .ok (.iload 4, 2) := by decide +kernel
theorem dL_number_19 : decode cL_number 19 = .ok (.iaload, 1) := by decide +kernel
theorem dL_number_20 : decode cL_number 20 = .ok (.istore 5, 2) := by decide +kernel
theorem dL_number_22 : decode cL_number 22 = .ok (.bipush 10, 2) := by decide +kernel
theorem dL_number_24 : decode cL_number 24 = .ok (.iload_n 1, 1) := by decide +kernel
theorem dL_number_25 : decode cL_number 25 = .ok (.imul, 1) := by decide +kernel
theorem dL_number_26 : decode cL_number 26 = .ok (.iload 5, 2) := by decide +kernel
theorem dL_number_28 : decode cL_number 28 = .ok (.iadd, 1) := by decide +kernel
theorem dL_number_29 : decode cL_number 29 = .ok (.iconst 1, 1) := by decide +kernel
theorem dL_number_30 : decode cL_number 30 = .ok (.iadd, 1) := by decide +kernel
theorem dL_number_31 : decode cL_number 31 = .ok (.istore_n 1, 1) := by decide +kernel
theorem dL_number_32 : decode cL_number 32 = .ok (.iinc 4 1, 3) := by decide +kernel
theorem dL_number_35 : decode cL_number 35 = .ok (.goto (-25), 3) := by decide +kernel
theorem dL_number_38 : decode cL_number 38 = .ok (.iload_n 1, 1) := by decide +kernel
theorem dL_number_39 : decode cL_number 39 = .ok (.ireturn, 1) := by decide +kernel
theorem dL_isNeutral_0 : decode cL_isNeutral 0 = .ok (.iconst 1, 1) := by decide +kernel
theorem dL_isNeutral_1 : decode cL_isNeutral 1 = .ok (.istore_n 1, 1) := by decide +kernel
theorem dL_isNeutral_2 : decode cL_isNeutral 2 = .ok (.iconst 0, 1) := by decide +kernel
theorem dL_isNeutral_3 : decode cL_isNeutral 3 = .ok (.istore_n 2, 1) := by decide +kernel
theorem dL_isNeutral_4 : decode cL_isNeutral 4 = .ok (.iload_n 2, 1) := by decide +kernel
theorem dL_isNeutral_5 : decode cL_isNeutral 5 = .ok (.aload_n 0, 1) := by decide +kernel
theorem dL_isNeutral_6 : decode cL_isNeutral 6 = .ok (.arraylength, 1) := by decide +kernel
theorem dL_isNeutral_7 : decode cL_isNeutral 7 = .ok (.if_icmp .ge 24, 3) := by decide +kernel
theorem dL_isNeutral_10 : decode cL_isNeutral 10 = .ok (.iload_n 1, 1) := by decide +kernel
theorem dL_isNeutral_11 : decode cL_isNeutral 11 = .ok (.aload_n 0, 1) := by decide +kernel
theorem dL_isNeutral_12 : decode cL_isNeutral 12 = .ok (.iload_n 2, 1) := by decide +kernel
theorem dL_isNeutral_13 : decode cL_isNeutral 13 = .ok (.iaload, 1) := by decide +kernel
theorem dL_isNeutral_14 : decode cL_isNeutral 14 = .ok (.iload_n 2, 1) := by decide +kernel
theorem dL_isNeutral_15 : decode cL_isNeutral 15 = .ok (.if_icmp .ne 7, 3) := by decide +kernel
theorem dL_isNeutral_18 : decode cL_isNeutral 18 = .ok (.iconst 1, 1) := by decide +kernel
theorem dL_isNeutral_19 : decode cL_isNeutral 19 = .ok (.goto 4, 3) := by decide +kernel
theorem dL_isNeutral_22 : decode cL_isNeutral 22 = .ok (.iconst 0, 1) := by decide +kernel
theorem dL_isNeutral_23 : decode cL_isNeutral 23 = .ok (.iand, 1) := by decide +kernel
theorem dL_isNeutral_24 : decode cL_isNeutral 24 = .ok (.istore_n 1, 1) := by decide +kernel
theorem dL_isNeutral_25 : decode cL_isNeutral 25 = .ok (.iinc 2 1, 3) := by decide +kernel
theorem dL_isNeutral_28 : decode cL_isNeutral 28 = .ok (.goto (-24), 3) := by decide +kernel
theorem dL_isNeutral_31 : decode cL_isNeutral 31 = .ok (.iload_n 1, 1) := by decide +kernel
theorem dL_isNeutral_32 : decode cL_isNeutral 32 = .ok (.ireturn, 1) := by decide +kernel
theorem dL_orderOf_0 : decode cL_orderOf 0 = .ok (.iconst 1, 1) := by decide +kernel
theorem dL_orderOf_1 : decode cL_orderOf 1 = .ok (.istore_n 1, 1) := by decide +kernel
theorem dL_orderOf_2 : decode cL_orderOf 2 = .ok (.aload_n 0, 1) := by decide +kernel
theorem dL_orderOf_3 : decode cL_orderOf 3 = .ok (.astore_n 2, 1) := by decide +kernel
theorem dL_orderOf_4 : decode cL_orderOf 4 = .ok (.aload_n 2, 1) := by decide +kernel
theorem dL_orderOf_5 : decode cL_orderOf 5 = .ok (.invokestatic 112, 3) := by decide +kernel
theorem dL_orderOf_8 : decode cL_orderOf 8 = .ok (.ifCond .ne 15, 3) := by decide +kernel
theorem dL_orderOf_11 : decode cL_orderOf 11 = .ok (.aload_n 2, 1) := by decide +kernel
theorem dL_orderOf_12 : decode cL_orderOf 12 = .ok (.aload_n 0, 1) := by decide +kernel
theorem dL_orderOf_13 : decode cL_orderOf 13 = .ok (.invokestatic 116, 3) := by decide +kernel
theorem dL_orderOf_16 : decode cL_orderOf 16 = .ok (.astore_n 2, 1) := by decide +kernel
theorem dL_orderOf_17 : decode cL_orderOf 17 = .ok (.iinc 1 1, 3) := by decide +kernel
theorem dL_orderOf_20 : decode cL_orderOf 20 = .ok (.goto (-16), 3) := by decide +kernel
theorem dL_orderOf_23 : decode cL_orderOf 23 = .ok (.iload_n 1, 1) := by decide +kernel
theorem dL_orderOf_24 : decode cL_orderOf 24 = .ok (.ireturn, 1) := by decide +kernel
theorem dL_random_0 : decode cL_random 0 = .ok (.iload_n 1, 1) := by decide +kernel
theorem dL_random_1 : decode cL_random 1 = .ok (.invokestatic 120, 3) := by decide +kernel
theorem dL_random_4 : decode cL_random 4 = .ok (.astore_n 2, 1) := by decide +kernel
theorem dL_random_5 : decode cL_random 5 = .ok (.iload_n 1, 1) := by decide +kernel
theorem dL_random_6 : decode cL_random 6 = .ok (.iconst 1, 1) := by decide +kernel
theorem dL_random_7 : decode cL_random 7 = .ok (.isub, 1) := by decide +kernel
theorem dL_random_8 : decode cL_random 8 = .ok (.istore_n 3, 1) := by decide +kernel
theorem dL_random_9 : decode cL_random 9 = .ok (.iload_n 3, 1) := by decide +kernel
theorem dL_random_10 : decode cL_random 10 = .ok (.ifCond .le 36, 3) := by decide +kernel
theorem dL_random_13 : decode cL_random 13 = .ok (.aload_n 0, 1) := by decide +kernel
theorem dL_random_14 : decode cL_random 14 = .ok (.iload_n 3, 1) := by decide +kernel
theorem dL_random_15 : decode cL_random 15 = .ok (.iconst 1, 1) := by decide +kernel
theorem dL_random_16 : decode cL_random 16 = .ok (.iadd, 1) := by decide +kernel
theorem dL_random_17 : decode cL_random 17 = .ok (.invokevirtual 124, 3) := by decide +kernel
theorem dL_random_20 : decode cL_random 20 = .ok (.istore 4, 2) := by decide +kernel
theorem dL_random_22 : decode cL_random 22 = .ok (.aload_n 2, 1) := by decide +kernel
theorem dL_random_23 : decode cL_random 23 = .ok (.iload_n 3, 1) := by decide +kernel
theorem dL_random_24 : decode cL_random 24 = .ok (.iaload, 1) := by decide +kernel
theorem dL_random_25 : decode cL_random 25 = .ok (.istore 5, 2) := by decide +kernel
theorem dL_random_27 : decode cL_random 27 = .ok (.aload_n 2, 1) := by decide +kernel
theorem dL_random_28 : decode cL_random 28 = .ok (.iload_n 3, 1) := by decide +kernel
theorem dL_random_29 : decode cL_random 29 = .ok (.aload_n 2, 1) := by decide +kernel
theorem dL_random_30 : decode cL_random 30 = .ok (.iload 4, 2) := by decide +kernel
theorem dL_random_32 : decode cL_random 32 = .ok (.iaload, 1) := by decide +kernel
theorem dL_random_33 : decode cL_random 33 = .ok (.iastore, 1) := by decide +kernel
theorem dL_random_34 : decode cL_random 34 = .ok (.aload_n 2, 1) := by decide +kernel
theorem dL_random_35 : decode cL_random 35 = .ok (.iload 4, 2) := by decide +kernel
theorem dL_random_37 : decode cL_random 37 = .ok (.iload 5, 2) := by decide +kernel
theorem dL_random_39 : decode cL_random 39 = .ok (.iastore, 1) := by decide +kernel
theorem dL_random_40 : decode cL_random 40 = .ok (.iinc 3 (-1), 3) := by decide +kernel
theorem dL_random_43 : decode cL_random 43 = .ok (.goto (-34), 3) := by decide +kernel
theorem dL_random_46 : decode cL_random 46 = .ok (.aload_n 2, 1) := by decide +kernel
theorem dL_random_47 : decode cL_random 47 = .ok (.areturn, 1) := by decide +kernel
theorem dL_with_0 : decode cL_with 0 = .ok (.aload_n 0, 1) := by decide +kernel
theorem dL_with_1 : decode cL_with 1 = .ok (.arraylength, 1) := by decide +kernel
theorem dL_with_2 : decode cL_with 2 = .ok (.iconst 1, 1) := by decide +kernel
theorem dL_with_3 : decode cL_with 3 = .ok (.iadd, 1) := by decide +kernel
theorem dL_with_4 : decode cL_with 4 = .ok (.anewarray 129, 3) := by decide +kernel
theorem dL_with_7 : decode cL_with 7 = .ok (.astore_n 2, 1) := by decide +kernel
theorem dL_with_8 : decode cL_with 8 = .ok (.iconst 0, 1) := by decide +kernel
theorem dL_with_9 : decode cL_with 9 = .ok (.istore_n 3, 1) := by decide +kernel
theorem dL_with_10 : decode cL_with 10 = .ok (.iload_n 3, 1) := by decide +kernel
theorem dL_with_11 : decode cL_with 11 = .ok (.aload_n 0, 1) := by decide +kernel
theorem dL_with_12 : decode cL_with 12 = .ok (.arraylength, 1) := by decide +kernel
theorem dL_with_13 : decode cL_with 13 = .ok (.if_icmp .ge 15, 3) := by decide +kernel
theorem dL_with_16 : decode cL_with 16 = .ok (.aload_n 2, 1) := by decide +kernel
theorem dL_with_17 : decode cL_with 17 = .ok (.iload_n 3, 1) := by decide +kernel
theorem dL_with_18 : decode cL_with 18 = .ok (.aload_n 0, 1) := by decide +kernel
theorem dL_with_19 : decode cL_with 19 = .ok (.iload_n 3, 1) := by decide +kernel
theorem dL_with_20 : decode cL_with 20 = .ok (.aaload, 1) := by decide +kernel
theorem dL_with_21 : decode cL_with 21 = .ok (.aastore, 1) := by decide +kernel
theorem dL_with_22 : decode cL_with 22 = .ok (.iinc 3 1, 3) := by decide +kernel
theorem dL_with_25 : decode cL_with 25 = .ok (.goto (-15), 3) := by decide +kernel
theorem dL_with_28 : decode cL_with 28 = .ok (.aload_n 2, 1) := by decide +kernel
theorem dL_with_29 : decode cL_with 29 = .ok (.aload_n 0, 1) := by decide +kernel
theorem dL_with_30 : decode cL_with 30 = .ok (.arraylength, 1) := by decide +kernel
theorem dL_with_31 : decode cL_with 31 = .ok (.aload_n 1, 1) := by decide +kernel
theorem dL_with_32 : decode cL_with 32 = .ok (.aastore, 1) := by decide +kernel
theorem dL_with_33 : decode cL_with 33 = .ok (.aload_n 2, 1) := by decide +kernel
theorem dL_with_34 : decode cL_with 34 = .ok (.areturn, 1) := by decide +kernel
theorem dL_without_0 : decode cL_without 0 = .ok (.aload_n 0, 1) := by decide +kernel
theorem dL_without_1 : decode cL_without 1 = .ok (.arraylength, 1) := by decide +kernel
theorem dL_without_2 : decode cL_without 2 = .ok (.iconst 1, 1) := by decide +kernel
theorem dL_without_3 : decode cL_without 3 = .ok (.isub, 1) := by decide +kernel
theorem dL_without_4 : decode cL_without 4 = .ok (.anewarray 129, 3) := by decide +kernel
theorem dL_without_7 : decode cL_without 7 = .ok (.astore_n 2, 1) := by decide +kernel
theorem dL_without_8 : decode cL_without 8 = .ok (.iconst 0, 1) := by decide +kernel
theorem dL_without_9 : decode cL_without 9 = .ok (.istore_n 3, 1) := by decide +kernel
theorem dL_without_10 : decode cL_without 10 = .ok (.iload_n 3, 1) := by decide +kernel
theorem dL_without_11 : decode cL_without 11 = .ok (.aload_n 2, 1) := by decide +kernel
theorem dL_without_12 : decode cL_without 12 = .ok (.arraylength, 1) := by decide +kernel
theorem dL_without_13 : decode cL_without 13 = .ok (.if_icmp .ge 26, 3) := by decide +kernel
theorem dL_without_16 : decode cL_without 16 = .ok (.aload_n 2, 1) := by decide +kernel
theorem dL_without_17 : decode cL_without 17 = .ok (.iload_n 3, 1) := by decide +kernel
theorem dL_without_18 : decode cL_without 18 = .ok (.aload_n 0, 1) := by decide +kernel
theorem dL_without_19 : decode cL_without 19 = .ok (.iload_n 3, 1) := by decide +kernel
theorem dL_without_20 : decode cL_without 20 = .ok (.iload_n 1, 1) := by decide +kernel
theorem dL_without_21 : decode cL_without 21 = .ok (.if_icmp .ge 7, 3) := by decide +kernel
theorem dL_without_24 : decode cL_without 24 = .ok (.iload_n 3, 1) := by decide +kernel
theorem dL_without_25 : decode cL_without 25 = .ok (.goto 6, 3) := by decide +kernel
theorem dL_without_28 : decode cL_without 28 = .ok (.iload_n 3, 1) := by decide +kernel
theorem dL_without_29 : decode cL_without 29 = .ok (.iconst 1, 1) := by decide +kernel
theorem dL_without_30 : decode cL_without 30 = .ok (.iadd, 1) := by decide +kernel
theorem dL_without_31 : decode cL_without 31 = .ok (.aaload, 1) := by decide +kernel
theorem dL_without_32 : decode cL_without 32 = .ok (.aastore, 1) := by decide +kernel
theorem dL_without_33 : decode cL_without 33 = .ok (.iinc 3 1, 3) := by decide +kernel
theorem dL_without_36 : decode cL_without 36 = .ok (.goto (-26), 3) := by decide +kernel
theorem dL_without_39 : decode cL_without 39 = .ok (.aload_n 2, 1) := by decide +kernel
theorem dL_without_40 : decode cL_without 40 = .ok (.areturn, 1) := by decide +kernel
theorem dL_writeNumbers_0 : decode cL_writeNumbers 0 = .ok (.aload_n 0, 1) := by decide +kernel
theorem dL_writeNumbers_1 : decode cL_writeNumbers 1 = .ok (.aload_n 1, 1) := by decide +kernel
theorem dL_writeNumbers_2 : decode cL_writeNumbers 2 = .ok (.aload_n 2, 1) := by decide +kernel
theorem dL_writeNumbers_3 : decode cL_writeNumbers 3 = .ok (.invokestatic 131, 3) := by decide +kernel
theorem dL_writeNumbers_6 : decode cL_writeNumbers 6 = .ok (.aload_n 3, 1) := by decide +kernel
theorem dL_writeNumbers_7 : decode cL_writeNumbers 7 = .ok (.astore 4, 2) := by decide +kernel
theorem dL_writeNumbers_9 : decode cL_writeNumbers 9 = .ok (.aload 4, 2) := by decide +kernel
theorem dL_writeNumbers_11 : decode cL_writeNumbers 11 = .ok (.arraylength, 1) := by decide +kernel
theorem dL_writeNumbers_12 : decode cL_writeNumbers 12 = .ok (.istore 5, 2) := by decide +kernel
theorem dL_writeNumbers_14 : decode cL_writeNumbers 14 = .ok (.iconst 0, 1) := by decide +kernel
theorem dL_writeNumbers_15 : decode cL_writeNumbers 15 = .ok (.istore 6, 2) := by decide +kernel
theorem dL_writeNumbers_17 : decode cL_writeNumbers 17 = .ok (.iload 6, 2) := by decide +kernel
theorem dL_writeNumbers_19 : decode cL_writeNumbers 19 = .ok (.iload 5, 2) := by decide +kernel
theorem dL_writeNumbers_21 : decode cL_writeNumbers 21 = .ok (.if_icmp .ge 30, 3) := by decide +kernel
theorem dL_writeNumbers_24 : decode cL_writeNumbers 24 = .ok (.aload 4, 2) := by decide +kernel
theorem dL_writeNumbers_26 : decode cL_writeNumbers 26 = .ok (.iload 6, 2) := by decide +kernel
theorem dL_writeNumbers_28 : decode cL_writeNumbers 28 = .ok (.iaload, 1) := by decide +kernel
theorem dL_writeNumbers_29 : decode cL_writeNumbers 29 = .ok (.istore 7, 2) := by decide +kernel
theorem dL_writeNumbers_31 : decode cL_writeNumbers 31 = .ok (.aload_n 0, 1) := by decide +kernel
theorem dL_writeNumbers_32 : decode cL_writeNumbers 32 = .ok (.aload_n 1, 1) := by decide +kernel
theorem dL_writeNumbers_33 : decode cL_writeNumbers 33 = .ok (.ldc 135, 2) := by decide +kernel
theorem dL_writeNumbers_35 : decode cL_writeNumbers 35 = .ok (.invokestatic 131, 3) := by decide +kernel
theorem dL_writeNumbers_38 : decode cL_writeNumbers 38 = .ok (.aload_n 0, 1) := by decide +kernel
theorem dL_writeNumbers_39 : decode cL_writeNumbers 39 = .ok (.aload_n 1, 1) := by decide +kernel
theorem dL_writeNumbers_40 : decode cL_writeNumbers 40 = .ok (.iload 7, 2) := by decide +kernel
theorem dL_writeNumbers_42 : decode cL_writeNumbers 42 = .ok (.invokestatic 137, 3) := by decide +kernel
theorem dL_writeNumbers_45 : decode cL_writeNumbers 45 = .ok (.iinc 6 1, 3) := by decide +kernel
theorem dL_writeNumbers_48 : decode cL_writeNumbers 48 = .ok (.goto (-31), 3) := by decide +kernel
theorem dL_writeNumbers_51 : decode cL_writeNumbers 51 = .ok (.aload_n 0, 1) := by decide +kernel
theorem dL_writeNumbers_52 : decode cL_writeNumbers 52 = .ok (.aload_n 1, 1) := by decide +kernel
theorem dL_writeNumbers_53 : decode cL_writeNumbers 53 = .ok (.ldc 140, 2) := by decide +kernel
theorem dL_writeNumbers_55 : decode cL_writeNumbers 55 = .ok (.invokestatic 131, 3) := by decide +kernel
theorem dL_writeNumbers_58 : decode cL_writeNumbers 58 = .ok (.return_, 1) := by decide +kernel
theorem dL_randomSale_0 : decode cL_randomSale 0 = .ok (.new 142, 3) := by decide +kernel
theorem dL_randomSale_3 : decode cL_randomSale 3 = .ok (.dup, 1) := by decide +kernel
theorem dL_randomSale_4 : decode cL_randomSale 4 = .ok (.invokespecial 144, 3) := by decide +kernel
theorem dL_randomSale_7 : decode cL_randomSale 7 = .ok (.astore 4, 2) := by decide +kernel
theorem dL_randomSale_9 : decode cL_randomSale 9 = .ok (.aload 4, 2) := by decide +kernel
theorem dL_randomSale_11 : decode cL_randomSale 11 = .ok (.iconst 2, 1) := by decide +kernel
theorem dL_randomSale_12 : decode cL_randomSale 12 = .ok (.aload_n 2, 1) := by decide +kernel
theorem dL_randomSale_13 : decode cL_randomSale 13 = .ok (.iconst 4, 1) := by decide +kernel
theorem dL_randomSale_14 : decode cL_randomSale 14 = .ok (.invokevirtual 124, 3) := by decide +kernel
theorem dL_randomSale_17 : decode cL_randomSale 17 = .ok (.iadd, 1) := by decide +kernel
theorem dL_randomSale_18 : decode cL_randomSale 18 = .ok (.putfield 145, 3) := by decide +kernel
theorem dL_randomSale_21 : decode cL_randomSale 21 = .ok (.aload_n 0, 1) := by decide +kernel
theorem dL_randomSale_22 : decode cL_randomSale 22 = .ok (.aload_n 1, 1) := by decide +kernel
theorem dL_randomSale_23 : decode cL_randomSale 23 = .ok (.ldc 149, 2) := by decide +kernel
theorem dL_randomSale_25 : decode cL_randomSale 25 = .ok (.iconst 1, 1) := by decide +kernel
theorem dL_randomSale_26 : decode cL_randomSale 26 = .ok (.newarray .int, 2) := by decide +kernel
theorem dL_randomSale_28 : decode cL_randomSale 28 = .ok (.dup, 1) := by decide +kernel
theorem dL_randomSale_29 : decode cL_randomSale 29 = .ok (.iconst 0, 1) := by decide +kernel
theorem dL_randomSale_30 : decode cL_randomSale 30 = .ok (.aload 4, 2) := by decide +kernel
theorem dL_randomSale_32 : decode cL_randomSale 32 = .ok (.getfield 145, 3) := by decide +kernel
theorem dL_randomSale_35 : decode cL_randomSale 35 = .ok (.iastore, 1) := by decide +kernel
theorem dL_randomSale_36 : decode cL_randomSale 36 = .ok (.invokestatic 151, 3) := by decide +kernel
theorem dL_randomSale_39 : decode cL_randomSale 39 = .ok (.aload_n 2, 1) := by decide +kernel
theorem dL_randomSale_40 : decode cL_randomSale 40 = .ok (.iconst 5, 1) := by decide +kernel
theorem dL_randomSale_41 : decode cL_randomSale 41 = .ok (.invokevirtual 124, 3) := by decide +kernel
theorem dL_randomSale_44 : decode cL_randomSale 44 = .ok (.istore 5, 2) := by decide +kernel
theorem dL_randomSale_46 : decode cL_randomSale 46 = .ok (.aload 4, 2) := by decide +kernel
theorem dL_randomSale_48 : decode cL_randomSale 48 = .ok (.iload 5, 2) := by decide +kernel
theorem dL_randomSale_50 : decode cL_randomSale 50 = .ok (.newarray .int, 2) := by decide +kernel
theorem dL_randomSale_52 : decode cL_randomSale 52 = .ok (.putfield 155, 3) := by decide +kernel
theorem dL_randomSale_55 : decode cL_randomSale 55 = .ok (.aload 4, 2) := by decide +kernel
theorem dL_randomSale_57 : decode cL_randomSale 57 = .ok (.iload 5, 2) := by decide +kernel
theorem dL_randomSale_59 : decode cL_randomSale 59 = .ok (.newarray .int, 2) := by decide +kernel
theorem dL_randomSale_61 : decode cL_randomSale 61 = .ok (.putfield 159, 3) := by decide +kernel
theorem dL_randomSale_64 : decode cL_randomSale 64 = .ok (.aload 4, 2) := by decide +kernel
theorem dL_randomSale_66 : decode cL_randomSale 66 = .ok (.iload 5, 2) := by decide +kernel
theorem dL_randomSale_68 : decode cL_randomSale 68 = .ok (.anewarray 162, 3) := by decide +kernel
theorem dL_randomSale_71 : decode cL_randomSale 71 = .ok (.putfield 164, 3) := by decide +kernel
theorem dL_randomSale_74 : decode cL_randomSale 74 = .ok (.iconst 0, 1) := by decide +kernel
theorem dL_randomSale_75 : decode cL_randomSale 75 = .ok (.istore 6, 2) := by decide +kernel
theorem dL_randomSale_77 : decode cL_randomSale 77 = .ok (.iload 6, 2) := by decide +kernel
theorem dL_randomSale_79 : decode cL_randomSale 79 = .ok (.iload 5, 2) := by decide +kernel
theorem dL_randomSale_81 : decode cL_randomSale 81 = .ok (.if_icmp .ge 186, 3) := by decide +kernel
theorem dL_randomSale_84 : decode cL_randomSale 84 = .ok (.aload 4, 2) := by decide +kernel
theorem dL_randomSale_86 : decode cL_randomSale 86 = .ok (.getfield 155, 3) := by decide +kernel
theorem dL_randomSale_89 : decode cL_randomSale 89 = .ok (.iload 6, 2) := by decide +kernel
theorem dL_randomSale_91 : decode cL_randomSale 91 = .ok (.aload_n 2, 1) := by decide +kernel
theorem dL_randomSale_92 : decode cL_randomSale 92 = .ok (.aload_n 2, 1) := by decide +kernel
theorem dL_randomSale_93 : decode cL_randomSale 93 = .ok (.iconst 3, 1) := by decide +kernel
theorem dL_randomSale_94 : decode cL_randomSale 94 = .ok (.invokevirtual 124, 3) := by decide +kernel
theorem dL_randomSale_97 : decode cL_randomSale 97 = .ok (.ifCond .ne 8, 3) := by decide +kernel
theorem dL_randomSale_100 : decode cL_randomSale 100 = .ok (.ldc 168, 2) := by decide +kernel
theorem dL_randomSale_102 : decode cL_randomSale 102 = .ok (.goto 5, 3) := by decide +kernel
theorem dL_randomSale_105 : decode cL_randomSale 105 = .ok (.bipush 60, 2) := by decide +kernel
theorem dL_randomSale_107 : decode cL_randomSale 107 = .ok (.invokevirtual 124, 3) := by decide +kernel
theorem dL_randomSale_110 : decode cL_randomSale 110 = .ok (.iastore, 1) := by decide +kernel
theorem dL_randomSale_111 : decode cL_randomSale 111 = .ok (.aload_n 0, 1) := by decide +kernel
theorem dL_randomSale_112 : decode cL_randomSale 112 = .ok (.aload_n 1, 1) := by decide +kernel
theorem dL_randomSale_113 : decode cL_randomSale 113 = .ok (.ldc 169, 2) := by decide +kernel
theorem dL_randomSale_115 : decode cL_randomSale 115 = .ok (.iconst 1, 1) := by decide +kernel
theorem dL_randomSale_116 : decode cL_randomSale 116 = .ok (.newarray .int, 2) := by decide +kernel
theorem dL_randomSale_118 : decode cL_randomSale 118 = .ok (.dup, 1) := by decide +kernel
theorem dL_randomSale_119 : decode cL_randomSale 119 = .ok (.iconst 0, 1) := by decide +kernel
theorem dL_randomSale_120 : decode cL_randomSale 120 = .ok (.aload 4, 2) := by decide +kernel
theorem dL_randomSale_122 : decode cL_randomSale 122 = .ok (.getfield 155, 3) := by decide +kernel
theorem dL_randomSale_125 : decode cL_randomSale 125 = .ok (.iload 6, 2) := by decide +kernel
theorem dL_randomSale_127 : decode cL_randomSale 127 = .ok (.iaload, 1) := by decide +kernel
theorem dL_randomSale_128 : decode cL_randomSale 128 = .ok (.iastore, 1) := by decide +kernel
theorem dL_randomSale_129 : decode cL_randomSale 129 = .ok (.invokestatic 151, 3) := by decide +kernel
theorem dL_randomSale_132 : decode cL_randomSale 132 = .ok (.aload 4, 2) := by decide +kernel
theorem dL_randomSale_134 : decode cL_randomSale 134 = .ok (.getfield 164, 3) := by decide +kernel
theorem dL_randomSale_137 : decode cL_randomSale 137 = .ok (.iload 6, 2) := by decide +kernel
theorem dL_randomSale_139 : decode cL_randomSale 139 = .ok (.iconst 0, 1) := by decide +kernel
theorem dL_randomSale_140 : decode cL_randomSale 140 = .ok (.anewarray 129, 3) := by decide +kernel
theorem dL_randomSale_143 : decode cL_randomSale 143 = .ok (.aastore, 1) := by decide +kernel
theorem dL_randomSale_144 : decode cL_randomSale 144 = .ok (.aload_n 2, 1) := by decide +kernel
theorem dL_randomSale_145 : decode cL_randomSale 145 = .ok (.iload_n 3, 1) := by decide +kernel
theorem dL_randomSale_146 : decode cL_randomSale 146 = .ok (.iconst 1, 1) := by decide +kernel
theorem dL_randomSale_147 : decode cL_randomSale 147 = .ok (.iadd, 1) := by decide +kernel
theorem dL_randomSale_148 : decode cL_randomSale 148 = .ok (.invokevirtual 124, 3) := by decide +kernel
theorem dL_randomSale_151 : decode cL_randomSale 151 = .ok (.istore 7, 2) := by decide +kernel
theorem dL_randomSale_153 : decode cL_randomSale 153 = .ok (.iload 7, 2) := by decide +kernel
theorem dL_randomSale_155 : decode cL_randomSale 155 = .ok (.ifCond .le 106, 3) := by decide +kernel
theorem dL_randomSale_158 : decode cL_randomSale 158 = .ok (.new 129, 3) := by decide +kernel
theorem dL_randomSale_161 : decode cL_randomSale 161 = .ok (.dup, 1) := by decide +kernel
theorem dL_randomSale_162 : decode cL_randomSale 162 = .ok (.iload 6, 2) := by decide +kernel
theorem dL_randomSale_164 : decode cL_randomSale 164 = .ok (.aload_n 2, 1) := by decide +kernel
theorem dL_randomSale_165 : decode cL_randomSale 165 = .ok (.aload 4, 2) := by decide +kernel
theorem dL_randomSale_167 : decode cL_randomSale 167 = .ok (.getfield 145, 3) := by decide +kernel
theorem dL_randomSale_170 : decode cL_randomSale 170 = .ok (.invokestatic 170, 3) := by decide +kernel
theorem dL_randomSale_173 : decode cL_randomSale 173 = .ok (.iconst 1, 1) := by decide +kernel
theorem dL_randomSale_174 : decode cL_randomSale 174 = .ok (.aload_n 2, 1) := by decide +kernel
theorem dL_randomSale_175 : decode cL_randomSale 175 = .ok (.aload_n 2, 1) := by decide +kernel
theorem dL_randomSale_176 : decode cL_randomSale 176 = .ok (.iconst 4, 1) := by decide +kernel
theorem dL_randomSale_177 : decode cL_randomSale 177 = .ok (.invokevirtual 124, 3) := by decide +kernel
theorem dL_randomSale_180 : decode cL_randomSale 180 = .ok (.ifCond .ne 9, 3) := by decide +kernel
theorem dL_randomSale_183 : decode cL_randomSale 183 = .ok (.sipush 999, 3) := by decide +kernel
theorem dL_randomSale_186 : decode cL_randomSale 186 = .ok (.goto 5, 3) := by decide +kernel
theorem dL_randomSale_189 : decode cL_randomSale 189 = .ok (.bipush 9, 2) := by decide +kernel
theorem dL_randomSale_191 : decode cL_randomSale 191 = .ok (.invokevirtual 124, 3) := by decide +kernel
theorem dL_randomSale_194 : decode cL_randomSale 194 = .ok (.iadd, 1) := by decide +kernel
theorem dL_randomSale_195 : decode cL_randomSale 195 = .ok (.invokespecial 174, 3) := by decide +kernel
theorem dL_randomSale_198 : decode cL_randomSale 198 = .ok (.astore 8, 2) := by decide +kernel
theorem dL_randomSale_200 : decode cL_randomSale 200 = .ok (.aload 4, 2) := by decide +kernel
theorem dL_randomSale_202 : decode cL_randomSale 202 = .ok (.getfield 164, 3) := by decide +kernel
theorem dL_randomSale_205 : decode cL_randomSale 205 = .ok (.iload 6, 2) := by decide +kernel
theorem dL_randomSale_207 : decode cL_randomSale 207 = .ok (.aload 4, 2) := by decide +kernel
theorem dL_randomSale_209 : decode cL_randomSale 209 = .ok (.getfield 164, 3) := by decide +kernel
theorem dL_randomSale_212 : decode cL_randomSale 212 = .ok (.iload 6, 2) := by decide +kernel
theorem dL_randomSale_214 : decode cL_randomSale 214 = .ok (.aaload, 1) := by decide +kernel
theorem dL_randomSale_215 : decode cL_randomSale 215 = .ok (.aload 8, 2) := by decide +kernel
theorem dL_randomSale_217 : decode cL_randomSale 217 = .ok (.invokestatic 177, 3) := by decide +kernel
theorem dL_randomSale_220 : decode cL_randomSale 220 = .ok (.aastore, 1) := by decide +kernel
theorem dL_randomSale_221 : decode cL_randomSale 221 = .ok (.aload_n 0, 1) := by decide +kernel
theorem dL_randomSale_222 : decode cL_randomSale 222 = .ok (.aload_n 1, 1) := by decide +kernel
theorem dL_randomSale_223 : decode cL_randomSale 223 = .ok (.ldc 181, 2) := by decide +kernel
theorem dL_randomSale_225 : decode cL_randomSale 225 = .ok (.iconst 3, 1) := by decide +kernel
theorem dL_randomSale_226 : decode cL_randomSale 226 = .ok (.newarray .int, 2) := by decide +kernel
theorem dL_randomSale_228 : decode cL_randomSale 228 = .ok (.dup, 1) := by decide +kernel
theorem dL_randomSale_229 : decode cL_randomSale 229 = .ok (.iconst 0, 1) := by decide +kernel
theorem dL_randomSale_230 : decode cL_randomSale 230 = .ok (.iload 6, 2) := by decide +kernel
theorem dL_randomSale_232 : decode cL_randomSale 232 = .ok (.iastore, 1) := by decide +kernel
theorem dL_randomSale_233 : decode cL_randomSale 233 = .ok (.dup, 1) := by decide +kernel
theorem dL_randomSale_234 : decode cL_randomSale 234 = .ok (.iconst 1, 1) := by decide +kernel
theorem dL_randomSale_235 : decode cL_randomSale 235 = .ok (.aload 8, 2) := by decide +kernel
theorem dL_randomSale_237 : decode cL_randomSale 237 = .ok (.getfield 182, 3) := by decide +kernel
theorem dL_randomSale_240 : decode cL_randomSale 240 = .ok (.invokestatic 185, 3) := by decide +kernel
theorem dL_randomSale_243 : decode cL_randomSale 243 = .ok (.iastore, 1) := by decide +kernel
theorem dL_randomSale_244 : decode cL_randomSale 244 = .ok (.dup, 1) := by decide +kernel
theorem dL_randomSale_245 : decode cL_randomSale 245 = .ok (.iconst 2, 1) := by decide +kernel
theorem dL_randomSale_246 : decode cL_randomSale 246 = .ok (.aload 8, 2) := by decide +kernel
theorem dL_randomSale_248 : decode cL_randomSale 248 = .ok (.getfield 189, 3) := by decide +kernel
theorem dL_randomSale_251 : decode cL_randomSale 251 = .ok (.iastore, 1) := by decide +kernel
theorem dL_randomSale_252 : decode cL_randomSale 252 = .ok (.invokestatic 151, 3) := by decide +kernel
theorem dL_randomSale_255 : decode cL_randomSale 255 = .ok (.iinc 7 (-1), 3) := by decide +kernel
theorem dL_randomSale_258 : decode cL_randomSale 258 = .ok (.goto (-105), 3) := by decide +kernel
theorem dL_randomSale_261 : decode cL_randomSale 261 = .ok (.iinc 6 1, 3) := by decide +kernel
theorem dL_randomSale_264 : decode cL_randomSale 264 = .ok (.goto (-187), 3) := by decide +kernel
theorem dL_randomSale_267 : decode cL_randomSale 267 = .ok (.aload 4, 2) := by decide +kernel
theorem dL_randomSale_269 : decode cL_randomSale 269 = .ok (.aload_n 2, 1) := by decide +kernel
theorem dL_randomSale_270 : decode cL_randomSale 270 = .ok (.iconst 4, 1) := by decide +kernel
theorem dL_randomSale_271 : decode cL_randomSale 271 = .ok (.invokevirtual 124, 3) := by decide +kernel
theorem dL_randomSale_274 : decode cL_randomSale 274 = .ok (.newarray .int, 2) := by decide +kernel
theorem dL_randomSale_276 : decode cL_randomSale 276 = .ok (.putfield 192, 3) := by decide +kernel
theorem dL_randomSale_279 : decode cL_randomSale 279 = .ok (.iconst 0, 1) := by decide +kernel
theorem dL_randomSale_280 : decode cL_randomSale 280 = .ok (.istore 6, 2) := by decide +kernel
theorem dL_randomSale_282 : decode cL_randomSale 282 = .ok (.iload 6, 2) := by decide +kernel
theorem dL_randomSale_284 : decode cL_randomSale 284 = .ok (.aload 4, 2) := by decide +kernel
theorem dL_randomSale_286 : decode cL_randomSale 286 = .ok (.getfield 192, 3) := by decide +kernel
theorem dL_randomSale_289 : decode cL_randomSale 289 = .ok (.arraylength, 1) := by decide +kernel
theorem dL_randomSale_290 : decode cL_randomSale 290 = .ok (.if_icmp .ge 47, 3) := by decide +kernel
theorem dL_randomSale_293 : decode cL_randomSale 293 = .ok (.aload 4, 2) := by decide +kernel
theorem dL_randomSale_295 : decode cL_randomSale 295 = .ok (.getfield 192, 3) := by decide +kernel
theorem dL_randomSale_298 : decode cL_randomSale 298 = .ok (.iload 6, 2) := by decide +kernel
theorem dL_randomSale_300 : decode cL_randomSale 300 = .ok (.iconst 1, 1) := by decide +kernel
theorem dL_randomSale_301 : decode cL_randomSale 301 = .ok (.aload_n 2, 1) := by decide +kernel
theorem dL_randomSale_302 : decode cL_randomSale 302 = .ok (.sipush 9999, 3) := by decide +kernel
theorem dL_randomSale_305 : decode cL_randomSale 305 = .ok (.invokevirtual 124, 3) := by decide +kernel
theorem dL_randomSale_308 : decode cL_randomSale 308 = .ok (.iadd, 1) := by decide +kernel
theorem dL_randomSale_309 : decode cL_randomSale 309 = .ok (.iastore, 1) := by decide +kernel
theorem dL_randomSale_310 : decode cL_randomSale 310 = .ok (.aload_n 0, 1) := by decide +kernel
theorem dL_randomSale_311 : decode cL_randomSale 311 = .ok (.aload_n 1, 1) := by decide +kernel
theorem dL_randomSale_312 : decode cL_randomSale 312 = .ok (.ldc 195, 2) := by decide +kernel
theorem dL_randomSale_314 : decode cL_randomSale 314 = .ok (.iconst 1, 1) := by decide +kernel
theorem dL_randomSale_315 : decode cL_randomSale 315 = .ok (.newarray .int, 2) := by decide +kernel
theorem dL_randomSale_317 : decode cL_randomSale 317 = .ok (.dup, 1) := by decide +kernel
theorem dL_randomSale_318 : decode cL_randomSale 318 = .ok (.iconst 0, 1) := by decide +kernel
theorem dL_randomSale_319 : decode cL_randomSale 319 = .ok (.aload 4, 2) := by decide +kernel
theorem dL_randomSale_321 : decode cL_randomSale 321 = .ok (.getfield 192, 3) := by decide +kernel
theorem dL_randomSale_324 : decode cL_randomSale 324 = .ok (.iload 6, 2) := by decide +kernel
theorem dL_randomSale_326 : decode cL_randomSale 326 = .ok (.iaload, 1) := by decide +kernel
theorem dL_randomSale_327 : decode cL_randomSale 327 = .ok (.iastore, 1) := by decide +kernel
theorem dL_randomSale_328 : decode cL_randomSale 328 = .ok (.invokestatic 151, 3) := by decide +kernel
theorem dL_randomSale_331 : decode cL_randomSale 331 = .ok (.iinc 6 1, 3) := by decide +kernel
theorem dL_randomSale_334 : decode cL_randomSale 334 = .ok (.goto (-52), 3) := by decide +kernel
theorem dL_randomSale_337 : decode cL_randomSale 337 = .ok (.aload_n 2, 1) := by decide +kernel
theorem dL_randomSale_338 : decode cL_randomSale 338 = .ok (.iconst 2, 1) := by decide +kernel
theorem dL_randomSale_339 : decode cL_randomSale 339 = .ok (.invokevirtual 124, 3) := by decide +kernel
theorem dL_randomSale_342 : decode cL_randomSale 342 = .ok (.ifCond .ne 45, 3) := by decide +kernel
theorem dL_randomSale_345 : decode cL_randomSale 345 = .ok (.aload 4, 2) := by decide +kernel
theorem dL_randomSale_347 : decode cL_randomSale 347 = .ok (.aload_n 2, 1) := by decide +kernel
theorem dL_randomSale_348 : decode cL_randomSale 348 = .ok (.aload_n 2, 1) := by decide +kernel
theorem dL_randomSale_349 : decode cL_randomSale 349 = .ok (.iconst 3, 1) := by decide +kernel
theorem dL_randomSale_350 : decode cL_randomSale 350 = .ok (.invokevirtual 124, 3) := by decide +kernel
theorem dL_randomSale_353 : decode cL_randomSale 353 = .ok (.invokestatic 197, 3) := by decide +kernel
theorem dL_randomSale_356 : decode cL_randomSale 356 = .ok (.putfield 202, 3) := by decide +kernel
theorem dL_randomSale_359 : decode cL_randomSale 359 = .ok (.aload_n 0, 1) := by decide +kernel
theorem dL_randomSale_360 : decode cL_randomSale 360 = .ok (.aload_n 1, 1) := by decide +kernel
theorem dL_randomSale_361 : decode cL_randomSale 361 = .ok (.ldc 206, 2) := by decide +kernel
theorem dL_randomSale_363 : decode cL_randomSale 363 = .ok (.invokestatic 131, 3) := by decide +kernel
theorem dL_randomSale_366 : decode cL_randomSale 366 = .ok (.aload_n 0, 1) := by decide +kernel
theorem dL_randomSale_367 : decode cL_randomSale 367 = .ok (.aload_n 1, 1) := by decide +kernel
theorem dL_randomSale_368 : decode cL_randomSale 368 = .ok (.aload 4, 2) := by decide +kernel
theorem dL_randomSale_370 : decode cL_randomSale 370 = .ok (.getfield 202, 3) := by decide +kernel
theorem dL_randomSale_373 : decode cL_randomSale 373 = .ok (.iconst 0, 1) := by decide +kernel
theorem dL_randomSale_374 : decode cL_randomSale 374 = .ok (.invokevirtual 208, 3) := by decide +kernel
theorem dL_randomSale_377 : decode cL_randomSale 377 = .ok (.invokestatic 131, 3) := by decide +kernel
theorem dL_randomSale_380 : decode cL_randomSale 380 = .ok (.aload_n 0, 1) := by decide +kernel
theorem dL_randomSale_381 : decode cL_randomSale 381 = .ok (.aload_n 1, 1) := by decide +kernel
theorem dL_randomSale_382 : decode cL_randomSale 382 = .ok (.ldc 212, 2) := by decide +kernel
theorem dL_randomSale_384 : decode cL_randomSale 384 = .ok (.invokestatic 131, 3) := by decide +kernel
theorem dL_randomSale_387 : decode cL_randomSale 387 = .ok (.aload_n 0, 1) := by decide +kernel
theorem dL_randomSale_388 : decode cL_randomSale 388 = .ok (.aload_n 1, 1) := by decide +kernel
theorem dL_randomSale_389 : decode cL_randomSale 389 = .ok (.invokestatic 214, 3) := by decide +kernel
theorem dL_randomSale_392 : decode cL_randomSale 392 = .ok (.iload 5, 2) := by decide +kernel
theorem dL_randomSale_394 : decode cL_randomSale 394 = .ok (.if_icmp .ne 8, 3) := by decide +kernel
theorem dL_randomSale_397 : decode cL_randomSale 397 = .ok (.aload 4, 2) := by decide +kernel
theorem dL_randomSale_399 : decode cL_randomSale 399 = .ok (.goto 4, 3) := by decide +kernel
theorem dL_randomSale_402 : decode cL_randomSale 402 = .ok (.aconst_null, 1) := by decide +kernel
theorem dL_randomSale_403 : decode cL_randomSale 403 = .ok (.areturn, 1) := by decide +kernel
theorem dL_agrees_0 : decode cL_agrees 0 = .ok (.aload_n 0, 1) := by decide +kernel
theorem dL_agrees_1 : decode cL_agrees 1 = .ok (.invokevirtual 218, 3) := by decide +kernel
theorem dL_agrees_4 : decode cL_agrees 4 = .ok (.aload_n 1, 1) := by decide +kernel
theorem dL_agrees_5 : decode cL_agrees 5 = .ok (.invokevirtual 222, 3) := by decide +kernel
theorem dL_agrees_8 : decode cL_agrees 8 = .ok (.lcmp, 1) := by decide +kernel
theorem dL_agrees_9 : decode cL_agrees 9 = .ok (.ifCond .ne 27, 3) := by decide +kernel
theorem dL_agrees_12 : decode cL_agrees 12 = .ok (.aload_n 0, 1) := by decide +kernel
theorem dL_agrees_13 : decode cL_agrees 13 = .ok (.invokevirtual 225, 3) := by decide +kernel
theorem dL_agrees_16 : decode cL_agrees 16 = .ok (.aload_n 1, 1) := by decide +kernel
theorem dL_agrees_17 : decode cL_agrees 17 = .ok (.iconst 0, 1) := by decide +kernel
theorem dL_agrees_18 : decode cL_agrees 18 = .ok (.aload_n 1, 1) := by decide +kernel
theorem dL_agrees_19 : decode cL_agrees 19 = .ok (.getfield 228, 3) := by decide +kernel
theorem dL_agrees_22 : decode cL_agrees 22 = .ok (.arraylength, 1) := by decide +kernel
theorem dL_agrees_23 : decode cL_agrees 23 = .ok (.invokevirtual 231, 3) := by decide +kernel
theorem dL_agrees_26 : decode cL_agrees 26 = .ok (.invokestatic 185, 3) := by decide +kernel
theorem dL_agrees_29 : decode cL_agrees 29 = .ok (.if_icmp .ne 7, 3) := by decide +kernel
theorem dL_agrees_32 : decode cL_agrees 32 = .ok (.iconst 1, 1) := by decide +kernel
theorem dL_agrees_33 : decode cL_agrees 33 = .ok (.goto 4, 3) := by decide +kernel
theorem dL_agrees_36 : decode cL_agrees 36 = .ok (.iconst 0, 1) := by decide +kernel
theorem dL_agrees_37 : decode cL_agrees 37 = .ok (.istore_n 2, 1) := by decide +kernel
theorem dL_agrees_38 : decode cL_agrees 38 = .ok (.iconst 0, 1) := by decide +kernel
theorem dL_agrees_39 : decode cL_agrees 39 = .ok (.istore_n 3, 1) := by decide +kernel
theorem dL_agrees_40 : decode cL_agrees 40 = .ok (.iload_n 3, 1) := by decide +kernel
theorem dL_agrees_41 : decode cL_agrees 41 = .ok (.bipush 9, 2) := by decide +kernel
theorem dL_agrees_43 : decode cL_agrees 43 = .ok (.if_icmp .ge 32, 3) := by decide +kernel
theorem dL_agrees_46 : decode cL_agrees 46 = .ok (.iload_n 2, 1) := by decide +kernel
theorem dL_agrees_47 : decode cL_agrees 47 = .ok (.ifCond .eq 28, 3) := by decide +kernel
theorem dL_agrees_50 : decode cL_agrees 50 = .ok (.aload_n 0, 1) := by decide +kernel
theorem dL_agrees_51 : decode cL_agrees 51 = .ok (.iload_n 3, 1) := by decide +kernel
theorem dL_agrees_52 : decode cL_agrees 52 = .ok (.invokestatic 234, 3) := by decide +kernel
theorem dL_agrees_55 : decode cL_agrees 55 = .ok (.aload_n 1, 1) := by decide +kernel
theorem dL_agrees_56 : decode cL_agrees 56 = .ok (.iload_n 3, 1) := by decide +kernel
theorem dL_agrees_57 : decode cL_agrees 57 = .ok (.invokevirtual 236, 3) := by decide +kernel
theorem dL_agrees_60 : decode cL_agrees 60 = .ok (.if_icmp .ne 7, 3) := by decide +kernel
theorem dL_agrees_63 : decode cL_agrees 63 = .ok (.iconst 1, 1) := by decide +kernel
theorem dL_agrees_64 : decode cL_agrees 64 = .ok (.goto 4, 3) := by decide +kernel
theorem dL_agrees_67 : decode cL_agrees 67 = .ok (.iconst 0, 1) := by decide +kernel
theorem dL_agrees_68 : decode cL_agrees 68 = .ok (.istore_n 2, 1) := by decide +kernel
theorem dL_agrees_69 : decode cL_agrees 69 = .ok (.iinc 3 1, 3) := by decide +kernel
theorem dL_agrees_72 : decode cL_agrees 72 = .ok (.goto (-32), 3) := by decide +kernel
theorem dL_agrees_75 : decode cL_agrees 75 = .ok (.iconst 0, 1) := by decide +kernel
theorem dL_agrees_76 : decode cL_agrees 76 = .ok (.istore_n 3, 1) := by decide +kernel
theorem dL_agrees_77 : decode cL_agrees 77 = .ok (.iload_n 3, 1) := by decide +kernel
theorem dL_agrees_78 : decode cL_agrees 78 = .ok (.aload_n 1, 1) := by decide +kernel
theorem dL_agrees_79 : decode cL_agrees 79 = .ok (.getfield 155, 3) := by decide +kernel
theorem dL_agrees_82 : decode cL_agrees 82 = .ok (.arraylength, 1) := by decide +kernel
theorem dL_agrees_83 : decode cL_agrees 83 = .ok (.if_icmp .ge 187, 3) := by decide +kernel
theorem dL_agrees_86 : decode cL_agrees 86 = .ok (.iload_n 2, 1) := by decide +kernel
theorem dL_agrees_87 : decode cL_agrees 87 = .ok (.ifCond .eq 183, 3) := by decide +kernel
theorem dL_agrees_90 : decode cL_agrees 90 = .ok (.aload_n 0, 1) := by decide +kernel
theorem dL_agrees_91 : decode cL_agrees 91 = .ok (.iload_n 3, 1) := by decide +kernel
theorem dL_agrees_92 : decode cL_agrees 92 = .ok (.iconst 0, 1) := by decide +kernel
theorem dL_agrees_93 : decode cL_agrees 93 = .ok (.invokestatic 239, 3) := by decide +kernel
theorem dL_agrees_96 : decode cL_agrees 96 = .ok (.aload_n 1, 1) := by decide +kernel
theorem dL_agrees_97 : decode cL_agrees 97 = .ok (.getfield 155, 3) := by decide +kernel
theorem dL_agrees_100 : decode cL_agrees 100 = .ok (.iload_n 3, 1) := by decide +kernel
theorem dL_agrees_101 : decode cL_agrees 101 = .ok (.iaload, 1) := by decide +kernel
theorem dL_agrees_102 : decode cL_agrees 102 = .ok (.if_icmp .ne 56, 3) := by decide +kernel
theorem dL_agrees_105 : decode cL_agrees 105 = .ok (.aload_n 0, 1) := by decide +kernel
theorem dL_agrees_106 : decode cL_agrees 106 = .ok (.iload_n 3, 1) := by decide +kernel
theorem dL_agrees_107 : decode cL_agrees 107 = .ok (.iconst 1, 1) := by decide +kernel
theorem dL_agrees_108 : decode cL_agrees 108 = .ok (.invokestatic 239, 3) := by decide +kernel
theorem dL_agrees_111 : decode cL_agrees 111 = .ok (.aload_n 1, 1) := by decide +kernel
theorem dL_agrees_112 : decode cL_agrees 112 = .ok (.getfield 164, 3) := by decide +kernel
theorem dL_agrees_115 : decode cL_agrees 115 = .ok (.iload_n 3, 1) := by decide +kernel
theorem dL_agrees_116 : decode cL_agrees 116 = .ok (.aaload, 1) := by decide +kernel
theorem dL_agrees_117 : decode cL_agrees 117 = .ok (.arraylength, 1) := by decide +kernel
theorem dL_agrees_118 : decode cL_agrees 118 = .ok (.if_icmp .ne 40, 3) := by decide +kernel
theorem dL_agrees_121 : decode cL_agrees 121 = .ok (.aload_n 0, 1) := by decide +kernel
theorem dL_agrees_122 : decode cL_agrees 122 = .ok (.iload_n 3, 1) := by decide +kernel
theorem dL_agrees_123 : decode cL_agrees 123 = .ok (.iconst 2, 1) := by decide +kernel
theorem dL_agrees_124 : decode cL_agrees 124 = .ok (.invokestatic 239, 3) := by decide +kernel
theorem dL_agrees_127 : decode cL_agrees 127 = .ok (.aload_n 1, 1) := by decide +kernel
theorem dL_agrees_128 : decode cL_agrees 128 = .ok (.getfield 159, 3) := by decide +kernel
theorem dL_agrees_131 : decode cL_agrees 131 = .ok (.iload_n 3, 1) := by decide +kernel
theorem dL_agrees_132 : decode cL_agrees 132 = .ok (.iaload, 1) := by decide +kernel
theorem dL_agrees_133 : decode cL_agrees 133 = .ok (.if_icmp .ne 25, 3) := by decide +kernel
theorem dL_agrees_136 : decode cL_agrees 136 = .ok (.aload_n 0, 1) := by decide +kernel
theorem dL_agrees_137 : decode cL_agrees 137 = .ok (.iload_n 3, 1) := by decide +kernel
theorem dL_agrees_138 : decode cL_agrees 138 = .ok (.aload_n 1, 1) := by decide +kernel
theorem dL_agrees_139 : decode cL_agrees 139 = .ok (.getfield 164, 3) := by decide +kernel
theorem dL_agrees_142 : decode cL_agrees 142 = .ok (.iload_n 3, 1) := by decide +kernel
theorem dL_agrees_143 : decode cL_agrees 143 = .ok (.aaload, 1) := by decide +kernel
theorem dL_agrees_144 : decode cL_agrees 144 = .ok (.arraylength, 1) := by decide +kernel
theorem dL_agrees_145 : decode cL_agrees 145 = .ok (.iconst 0, 1) := by decide +kernel
theorem dL_agrees_146 : decode cL_agrees 146 = .ok (.invokestatic 242, 3) := by decide +kernel
theorem dL_agrees_149 : decode cL_agrees 149 = .ok (.ldc 59, 2) := by decide +kernel
theorem dL_agrees_151 : decode cL_agrees 151 = .ok (.if_icmp .ne 7, 3) := by decide +kernel
theorem dL_agrees_154 : decode cL_agrees 154 = .ok (.iconst 1, 1) := by decide +kernel
theorem dL_agrees_155 : decode cL_agrees 155 = .ok (.goto 4, 3) := by decide +kernel
theorem dL_agrees_158 : decode cL_agrees 158 = .ok (.iconst 0, 1) := by decide +kernel
theorem dL_agrees_159 : decode cL_agrees 159 = .ok (.istore_n 2, 1) := by decide +kernel
theorem dL_agrees_160 : decode cL_agrees 160 = .ok (.iconst 0, 1) := by decide +kernel
theorem dL_agrees_161 : decode cL_agrees 161 = .ok (.istore 4, 2) := by decide +kernel
theorem dL_agrees_163 : decode cL_agrees 163 = .ok (.iload 4, 2) := by decide +kernel
theorem dL_agrees_165 : decode cL_agrees 165 = .ok (.aload_n 1, 1) := by decide +kernel
theorem dL_agrees_166 : decode cL_agrees 166 = .ok (.getfield 164, 3) := by decide +kernel
theorem dL_agrees_169 : decode cL_agrees 169 = .ok (.iload_n 3, 1) := by decide +kernel
theorem dL_agrees_170 : decode cL_agrees 170 = .ok (.aaload, 1) := by decide +kernel
theorem dL_agrees_171 : decode cL_agrees 171 = .ok (.arraylength, 1) := by decide +kernel
theorem dL_agrees_172 : decode cL_agrees 172 = .ok (.if_icmp .ge 92, 3) := by decide +kernel
theorem dL_agrees_175 : decode cL_agrees 175 = .ok (.iload_n 2, 1) := by decide +kernel
theorem dL_agrees_176 : decode cL_agrees 176 = .ok (.ifCond .eq 88, 3) := by decide +kernel
theorem dL_agrees_179 : decode cL_agrees 179 = .ok (.aload_n 0, 1) := by decide +kernel
theorem dL_agrees_180 : decode cL_agrees 180 = .ok (.iload_n 3, 1) := by decide +kernel
theorem dL_agrees_181 : decode cL_agrees 181 = .ok (.iload 4, 2) := by decide +kernel
theorem dL_agrees_183 : decode cL_agrees 183 = .ok (.iconst 0, 1) := by decide +kernel
theorem dL_agrees_184 : decode cL_agrees 184 = .ok (.invokestatic 242, 3) := by decide +kernel
theorem dL_agrees_187 : decode cL_agrees 187 = .ok (.aload_n 1, 1) := by decide +kernel
theorem dL_agrees_188 : decode cL_agrees 188 = .ok (.getfield 164, 3) := by decide +kernel
theorem dL_agrees_191 : decode cL_agrees 191 = .ok (.iload_n 3, 1) := by decide +kernel
theorem dL_agrees_192 : decode cL_agrees 192 = .ok (.aaload, 1) := by decide +kernel
theorem dL_agrees_193 : decode cL_agrees 193 = .ok (.iload 4, 2) := by decide +kernel
theorem dL_agrees_195 : decode cL_agrees 195 = .ok (.aaload, 1) := by decide +kernel
theorem dL_agrees_196 : decode cL_agrees 196 = .ok (.getfield 182, 3) := by decide +kernel
theorem dL_agrees_199 : decode cL_agrees 199 = .ok (.invokestatic 185, 3) := by decide +kernel
theorem dL_agrees_202 : decode cL_agrees 202 = .ok (.if_icmp .ne 54, 3) := by decide +kernel
theorem dL_agrees_205 : decode cL_agrees 205 = .ok (.aload_n 0, 1) := by decide +kernel
theorem dL_agrees_206 : decode cL_agrees 206 = .ok (.iload_n 3, 1) := by decide +kernel
theorem dL_agrees_207 : decode cL_agrees 207 = .ok (.iload 4, 2) := by decide +kernel
theorem dL_agrees_209 : decode cL_agrees 209 = .ok (.iconst 1, 1) := by decide +kernel
theorem dL_agrees_210 : decode cL_agrees 210 = .ok (.invokestatic 242, 3) := by decide +kernel
theorem dL_agrees_213 : decode cL_agrees 213 = .ok (.aload_n 1, 1) := by decide +kernel
theorem dL_agrees_214 : decode cL_agrees 214 = .ok (.getfield 164, 3) := by decide +kernel
theorem dL_agrees_217 : decode cL_agrees 217 = .ok (.iload_n 3, 1) := by decide +kernel
theorem dL_agrees_218 : decode cL_agrees 218 = .ok (.aaload, 1) := by decide +kernel
theorem dL_agrees_219 : decode cL_agrees 219 = .ok (.iload 4, 2) := by decide +kernel
theorem dL_agrees_221 : decode cL_agrees 221 = .ok (.aaload, 1) := by decide +kernel
theorem dL_agrees_222 : decode cL_agrees 222 = .ok (.getfield 189, 3) := by decide +kernel
theorem dL_agrees_225 : decode cL_agrees 225 = .ok (.if_icmp .ne 31, 3) := by decide +kernel
theorem dL_agrees_228 : decode cL_agrees 228 = .ok (.aload_n 0, 1) := by decide +kernel
theorem dL_agrees_229 : decode cL_agrees 229 = .ok (.iload_n 3, 1) := by decide +kernel
theorem dL_agrees_230 : decode cL_agrees 230 = .ok (.iload 4, 2) := by decide +kernel
theorem dL_agrees_232 : decode cL_agrees 232 = .ok (.iconst 2, 1) := by decide +kernel
theorem dL_agrees_233 : decode cL_agrees 233 = .ok (.invokestatic 242, 3) := by decide +kernel
theorem dL_agrees_236 : decode cL_agrees 236 = .ok (.aload_n 1, 1) := by decide +kernel
theorem dL_agrees_237 : decode cL_agrees 237 = .ok (.aload_n 1, 1) := by decide +kernel
theorem dL_agrees_238 : decode cL_agrees 238 = .ok (.getfield 164, 3) := by decide +kernel
theorem dL_agrees_241 : decode cL_agrees 241 = .ok (.iload_n 3, 1) := by decide +kernel
theorem dL_agrees_242 : decode cL_agrees 242 = .ok (.aaload, 1) := by decide +kernel
theorem dL_agrees_243 : decode cL_agrees 243 = .ok (.iload 4, 2) := by decide +kernel
theorem dL_agrees_245 : decode cL_agrees 245 = .ok (.aaload, 1) := by decide +kernel
theorem dL_agrees_246 : decode cL_agrees 246 = .ok (.invokevirtual 245, 3) := by decide +kernel
theorem dL_agrees_249 : decode cL_agrees 249 = .ok (.if_icmp .ne 7, 3) := by decide +kernel
theorem dL_agrees_252 : decode cL_agrees 252 = .ok (.iconst 1, 1) := by decide +kernel
theorem dL_agrees_253 : decode cL_agrees 253 = .ok (.goto 4, 3) := by decide +kernel
theorem dL_agrees_256 : decode cL_agrees 256 = .ok (.iconst 0, 1) := by decide +kernel
theorem dL_agrees_257 : decode cL_agrees 257 = .ok (.istore_n 2, 1) := by decide +kernel
theorem dL_agrees_258 : decode cL_agrees 258 = .ok (.iinc 4 1, 3) := by decide +kernel
theorem dL_agrees_261 : decode cL_agrees 261 = .ok (.goto (-98), 3) := by decide +kernel
theorem dL_agrees_264 : decode cL_agrees 264 = .ok (.iinc 3 1, 3) := by decide +kernel
theorem dL_agrees_267 : decode cL_agrees 267 = .ok (.goto (-190), 3) := by decide +kernel
theorem dL_agrees_270 : decode cL_agrees 270 = .ok (.iconst 0, 1) := by decide +kernel
theorem dL_agrees_271 : decode cL_agrees 271 = .ok (.istore_n 3, 1) := by decide +kernel
theorem dL_agrees_272 : decode cL_agrees 272 = .ok (.iload_n 3, 1) := by decide +kernel
theorem dL_agrees_273 : decode cL_agrees 273 = .ok (.aload_n 1, 1) := by decide +kernel
theorem dL_agrees_274 : decode cL_agrees 274 = .ok (.getfield 228, 3) := by decide +kernel
theorem dL_agrees_277 : decode cL_agrees 277 = .ok (.arraylength, 1) := by decide +kernel
theorem dL_agrees_278 : decode cL_agrees 278 = .ok (.if_icmp .ge 76, 3) := by decide +kernel
theorem dL_agrees_281 : decode cL_agrees 281 = .ok (.iload_n 2, 1) := by decide +kernel
theorem dL_agrees_282 : decode cL_agrees 282 = .ok (.ifCond .eq 72, 3) := by decide +kernel
theorem dL_agrees_285 : decode cL_agrees 285 = .ok (.aload_n 0, 1) := by decide +kernel
theorem dL_agrees_286 : decode cL_agrees 286 = .ok (.iload_n 3, 1) := by decide +kernel
theorem dL_agrees_287 : decode cL_agrees 287 = .ok (.iconst 0, 1) := by decide +kernel
theorem dL_agrees_288 : decode cL_agrees 288 = .ok (.invokestatic 249, 3) := by decide +kernel
theorem dL_agrees_291 : decode cL_agrees 291 = .ok (.aload_n 1, 1) := by decide +kernel
theorem dL_agrees_292 : decode cL_agrees 292 = .ok (.getfield 228, 3) := by decide +kernel
theorem dL_agrees_295 : decode cL_agrees 295 = .ok (.iload_n 3, 1) := by decide +kernel
theorem dL_agrees_296 : decode cL_agrees 296 = .ok (.aaload, 1) := by decide +kernel
theorem dL_agrees_297 : decode cL_agrees 297 = .ok (.getfield 251, 3) := by decide +kernel
theorem dL_agrees_300 : decode cL_agrees 300 = .ok (.if_icmp .ne 46, 3) := by decide +kernel
theorem dL_agrees_303 : decode cL_agrees 303 = .ok (.aload_n 0, 1) := by decide +kernel
theorem dL_agrees_304 : decode cL_agrees 304 = .ok (.iload_n 3, 1) := by decide +kernel
theorem dL_agrees_305 : decode cL_agrees 305 = .ok (.iconst 1, 1) := by decide +kernel
theorem dL_agrees_306 : decode cL_agrees 306 = .ok (.invokestatic 249, 3) := by decide +kernel
theorem dL_agrees_309 : decode cL_agrees 309 = .ok (.aload_n 1, 1) := by decide +kernel
theorem dL_agrees_310 : decode cL_agrees 310 = .ok (.getfield 228, 3) := by decide +kernel
theorem dL_agrees_313 : decode cL_agrees 313 = .ok (.iload_n 3, 1) := by decide +kernel
theorem dL_agrees_314 : decode cL_agrees 314 = .ok (.aaload, 1) := by decide +kernel
theorem dL_agrees_315 : decode cL_agrees 315 = .ok (.getfield 182, 3) := by decide +kernel
theorem dL_agrees_318 : decode cL_agrees 318 = .ok (.invokestatic 185, 3) := by decide +kernel
theorem dL_agrees_321 : decode cL_agrees 321 = .ok (.if_icmp .ne 25, 3) := by decide +kernel
theorem dL_agrees_324 : decode cL_agrees 324 = .ok (.aload_n 0, 1) := by decide +kernel
theorem dL_agrees_325 : decode cL_agrees 325 = .ok (.iload_n 3, 1) := by decide +kernel
theorem dL_agrees_326 : decode cL_agrees 326 = .ok (.iconst 2, 1) := by decide +kernel
theorem dL_agrees_327 : decode cL_agrees 327 = .ok (.invokestatic 249, 3) := by decide +kernel
theorem dL_agrees_330 : decode cL_agrees 330 = .ok (.aload_n 1, 1) := by decide +kernel
theorem dL_agrees_331 : decode cL_agrees 331 = .ok (.getfield 228, 3) := by decide +kernel
theorem dL_agrees_334 : decode cL_agrees 334 = .ok (.iload_n 3, 1) := by decide +kernel
theorem dL_agrees_335 : decode cL_agrees 335 = .ok (.aaload, 1) := by decide +kernel
theorem dL_agrees_336 : decode cL_agrees 336 = .ok (.getfield 189, 3) := by decide +kernel
theorem dL_agrees_339 : decode cL_agrees 339 = .ok (.if_icmp .ne 7, 3) := by decide +kernel
theorem dL_agrees_342 : decode cL_agrees 342 = .ok (.iconst 1, 1) := by decide +kernel
theorem dL_agrees_343 : decode cL_agrees 343 = .ok (.goto 4, 3) := by decide +kernel
theorem dL_agrees_346 : decode cL_agrees 346 = .ok (.iconst 0, 1) := by decide +kernel
theorem dL_agrees_347 : decode cL_agrees 347 = .ok (.istore_n 2, 1) := by decide +kernel
theorem dL_agrees_348 : decode cL_agrees 348 = .ok (.iinc 3 1, 3) := by decide +kernel
theorem dL_agrees_351 : decode cL_agrees 351 = .ok (.goto (-79), 3) := by decide +kernel
theorem dL_agrees_354 : decode cL_agrees 354 = .ok (.iload_n 2, 1) := by decide +kernel
theorem dL_agrees_355 : decode cL_agrees 355 = .ok (.ifCond .eq 48, 3) := by decide +kernel
theorem dL_agrees_358 : decode cL_agrees 358 = .ok (.aload_n 0, 1) := by decide +kernel
theorem dL_agrees_359 : decode cL_agrees 359 = .ok (.aload_n 1, 1) := by decide +kernel
theorem dL_agrees_360 : decode cL_agrees 360 = .ok (.getfield 155, 3) := by decide +kernel
theorem dL_agrees_363 : decode cL_agrees 363 = .ok (.arraylength, 1) := by decide +kernel
theorem dL_agrees_364 : decode cL_agrees 364 = .ok (.iconst 0, 1) := by decide +kernel
theorem dL_agrees_365 : decode cL_agrees 365 = .ok (.invokestatic 239, 3) := by decide +kernel
theorem dL_agrees_368 : decode cL_agrees 368 = .ok (.ldc 52, 2) := by decide +kernel
theorem dL_agrees_370 : decode cL_agrees 370 = .ok (.if_icmp .ne 33, 3) := by decide +kernel
theorem dL_agrees_373 : decode cL_agrees 373 = .ok (.aload_n 0, 1) := by decide +kernel
theorem dL_agrees_374 : decode cL_agrees 374 = .ok (.aload_n 1, 1) := by decide +kernel
theorem dL_agrees_375 : decode cL_agrees 375 = .ok (.getfield 228, 3) := by decide +kernel
theorem dL_agrees_378 : decode cL_agrees 378 = .ok (.arraylength, 1) := by decide +kernel
theorem dL_agrees_379 : decode cL_agrees 379 = .ok (.iconst 0, 1) := by decide +kernel
theorem dL_agrees_380 : decode cL_agrees 380 = .ok (.invokestatic 249, 3) := by decide +kernel
theorem dL_agrees_383 : decode cL_agrees 383 = .ok (.ldc 59, 2) := by decide +kernel
theorem dL_agrees_385 : decode cL_agrees 385 = .ok (.if_icmp .ne 18, 3) := by decide +kernel
theorem dL_agrees_388 : decode cL_agrees 388 = .ok (.aload_n 0, 1) := by decide +kernel
theorem dL_agrees_389 : decode cL_agrees 389 = .ok (.bipush 9, 2) := by decide +kernel
theorem dL_agrees_391 : decode cL_agrees 391 = .ok (.invokestatic 234, 3) := by decide +kernel
theorem dL_agrees_394 : decode cL_agrees 394 = .ok (.ldc 42, 2) := by decide +kernel
theorem dL_agrees_396 : decode cL_agrees 396 = .ok (.if_icmp .ne 7, 3) := by decide +kernel
theorem dL_agrees_399 : decode cL_agrees 399 = .ok (.iconst 1, 1) := by decide +kernel
theorem dL_agrees_400 : decode cL_agrees 400 = .ok (.goto 4, 3) := by decide +kernel
theorem dL_agrees_403 : decode cL_agrees 403 = .ok (.iconst 0, 1) := by decide +kernel
theorem dL_agrees_404 : decode cL_agrees 404 = .ok (.ireturn, 1) := by decide +kernel
theorem dL_law_0 : decode cL_law 0 = .ok (.iconst 1, 1) := by decide +kernel
theorem dL_law_1 : decode cL_law 1 = .ok (.istore_n 1, 1) := by decide +kernel
theorem dL_law_2 : decode cL_law 2 = .ok (.iconst 0, 1) := by decide +kernel
theorem dL_law_3 : decode cL_law 3 = .ok (.istore_n 2, 1) := by decide +kernel
theorem dL_law_4 : decode cL_law 4 = .ok (.iload_n 2, 1) := by decide +kernel
theorem dL_law_5 : decode cL_law 5 = .ok (.aload_n 0, 1) := by decide +kernel
theorem dL_law_6 : decode cL_law 6 = .ok (.arraylength, 1) := by decide +kernel
theorem dL_law_7 : decode cL_law 7 = .ok (.if_icmp .ge 1136, 3) := by decide +kernel
theorem dL_law_10 : decode cL_law 10 = .ok (.iload_n 2, 1) := by decide +kernel
theorem dL_law_11 : decode cL_law 11 = .ok (.iconst 2, 1) := by decide +kernel
theorem dL_law_12 : decode cL_law 12 = .ok (.if_icmp .ge 1131, 3) := by decide +kernel
theorem dL_law_15 : decode cL_law 15 = .ok (.iload_n 1, 1) := by decide +kernel
theorem dL_law_16 : decode cL_law 16 = .ok (.ifCond .eq 1127, 3) := by decide +kernel
theorem dL_law_19 : decode cL_law 19 = .ok (.new 14, 3) := by decide +kernel
theorem dL_law_22 : decode cL_law 22 = .ok (.dup, 1) := by decide +kernel
theorem dL_law_23 : decode cL_law 23 = .ok (.invokespecial 253, 3) := by decide +kernel
theorem dL_law_26 : decode cL_law 26 = .ok (.astore_n 3, 1) := by decide +kernel
theorem dL_law_27 : decode cL_law 27 = .ok (.bipush 8, 2) := by decide +kernel
theorem dL_law_29 : decode cL_law 29 = .ok (.newarray .int, 2) := by decide +kernel
theorem dL_law_31 : decode cL_law 31 = .ok (.astore 4, 2) := by decide +kernel
theorem dL_law_33 : decode cL_law 33 = .ok (.new 125, 3) := by decide +kernel
theorem dL_law_36 : decode cL_law 36 = .ok (.dup, 1) := by decide +kernel
theorem dL_law_37 : decode cL_law 37 = .ok (.aload_n 0, 1) := by decide +kernel
theorem dL_law_38 : decode cL_law 38 = .ok (.iload_n 2, 1) := by decide +kernel
theorem dL_law_39 : decode cL_law 39 = .ok (.iaload, 1) := by decide +kernel
theorem dL_law_40 : decode cL_law 40 = .ok (.invokespecial 254, 3) := by decide +kernel
theorem dL_law_43 : decode cL_law 43 = .ok (.astore 5, 2) := by decide +kernel
theorem dL_law_45 : decode cL_law 45 = .ok (.aload_n 3, 1) := by decide +kernel
theorem dL_law_46 : decode cL_law 46 = .ok (.new 142, 3) := by decide +kernel
theorem dL_law_49 : decode cL_law 49 = .ok (.dup, 1) := by decide +kernel
theorem dL_law_50 : decode cL_law 50 = .ok (.invokespecial 144, 3) := by decide +kernel
theorem dL_law_53 : decode cL_law 53 = .ok (.invokestatic 257, 3) := by decide +kernel
theorem dL_law_56 : decode cL_law 56 = .ok (.ifCond .eq 86, 3) := by decide +kernel
theorem dL_law_59 : decode cL_law 59 = .ok (.aload_n 3, 1) := by decide +kernel
theorem dL_law_60 : decode cL_law 60 = .ok (.invokevirtual 261, 3) := by decide +kernel
theorem dL_law_63 : decode cL_law 63 = .ok (.iconst (-1), 1) := by decide +kernel
theorem dL_law_64 : decode cL_law 64 = .ok (.if_icmp .ne 78, 3) := by decide +kernel
theorem dL_law_67 : decode cL_law 67 = .ok (.aload_n 3, 1) := by decide +kernel
theorem dL_law_68 : decode cL_law 68 = .ok (.invokevirtual 264, 3) := by decide +kernel
theorem dL_law_71 : decode cL_law 71 = .ok (.iconst (-1), 1) := by decide +kernel
theorem dL_law_72 : decode cL_law 72 = .ok (.if_icmp .ne 70, 3) := by decide +kernel
theorem dL_law_75 : decode cL_law 75 = .ok (.aload_n 3, 1) := by decide +kernel
theorem dL_law_76 : decode cL_law 76 = .ok (.iconst 0, 1) := by decide +kernel
theorem dL_law_77 : decode cL_law 77 = .ok (.invokestatic 267, 3) := by decide +kernel
theorem dL_law_80 : decode cL_law 80 = .ok (.ldc 99, 2) := by decide +kernel
theorem dL_law_82 : decode cL_law 82 = .ok (.if_icmp .ne 60, 3) := by decide +kernel
theorem dL_law_85 : decode cL_law 85 = .ok (.aload_n 3, 1) := by decide +kernel
theorem dL_law_86 : decode cL_law 86 = .ok (.invokestatic 269, 3) := by decide +kernel
theorem dL_law_89 : decode cL_law 89 = .ok (.ldc 99, 2) := by decide +kernel
theorem dL_law_91 : decode cL_law 91 = .ok (.if_icmp .ne 51, 3) := by decide +kernel
theorem dL_law_94 : decode cL_law 94 = .ok (.aload_n 3, 1) := by decide +kernel
theorem dL_law_95 : decode cL_law 95 = .ok (.iconst 0, 1) := by decide +kernel
theorem dL_law_96 : decode cL_law 96 = .ok (.bipush 12, 2) := by decide +kernel
theorem dL_law_98 : decode cL_law 98 = .ok (.iconst 1, 1) := by decide +kernel
theorem dL_law_99 : decode cL_law 99 = .ok (.invokestatic 272, 3) := by decide +kernel
theorem dL_law_102 : decode cL_law 102 = .ok (.ldc 52, 2) := by decide +kernel
theorem dL_law_104 : decode cL_law 104 = .ok (.if_icmp .ne 38, 3) := by decide +kernel
theorem dL_law_107 : decode cL_law 107 = .ok (.aload_n 3, 1) := by decide +kernel
theorem dL_law_108 : decode cL_law 108 = .ok (.bipush 12, 2) := by decide +kernel
theorem dL_law_110 : decode cL_law 110 = .ok (.invokestatic 274, 3) := by decide +kernel
theorem dL_law_113 : decode cL_law 113 = .ok (.iconst 1, 1) := by decide +kernel
theorem dL_law_114 : decode cL_law 114 = .ok (.if_icmp .ne 28, 3) := by decide +kernel
theorem dL_law_117 : decode cL_law 117 = .ok (.aload_n 3, 1) := by decide +kernel
theorem dL_law_118 : decode cL_law 118 = .ok (.bipush 21, 2) := by decide +kernel
theorem dL_law_120 : decode cL_law 120 = .ok (.invokestatic 274, 3) := by decide +kernel
theorem dL_law_123 : decode cL_law 123 = .ok (.iconst 2, 1) := by decide +kernel
theorem dL_law_124 : decode cL_law 124 = .ok (.if_icmp .ne 18, 3) := by decide +kernel
theorem dL_law_127 : decode cL_law 127 = .ok (.aload_n 3, 1) := by decide +kernel
theorem dL_law_128 : decode cL_law 128 = .ok (.bipush 11, 2) := by decide +kernel
theorem dL_law_130 : decode cL_law 130 = .ok (.invokestatic 274, 3) := by decide +kernel
theorem dL_law_133 : decode cL_law 133 = .ok (.ldc 42, 2) := by decide +kernel
theorem dL_law_135 : decode cL_law 135 = .ok (.if_icmp .ne 7, 3) := by decide +kernel
theorem dL_law_138 : decode cL_law 138 = .ok (.iconst 1, 1) := by decide +kernel
theorem dL_law_139 : decode cL_law 139 = .ok (.goto 4, 3) := by decide +kernel
theorem dL_law_142 : decode cL_law 142 = .ok (.iconst 0, 1) := by decide +kernel
theorem dL_law_143 : decode cL_law 143 = .ok (.istore_n 1, 1) := by decide +kernel
theorem dL_law_144 : decode cL_law 144 = .ok (.aload_n 3, 1) := by decide +kernel
theorem dL_law_145 : decode cL_law 145 = .ok (.aload 4, 2) := by decide +kernel
theorem dL_law_147 : decode cL_law 147 = .ok (.aload 5, 2) := by decide +kernel
theorem dL_law_149 : decode cL_law 149 = .ok (.bipush 6, 2) := by decide +kernel
theorem dL_law_151 : decode cL_law 151 = .ok (.invokestatic 276, 3) := by decide +kernel
theorem dL_law_154 : decode cL_law 154 = .ok (.astore 6, 2) := by decide +kernel
theorem dL_law_156 : decode cL_law 156 = .ok (.aload 6, 2) := by decide +kernel
theorem dL_law_158 : decode cL_law 158 = .ok (.ifnonnull 5, 3) := by decide +kernel
theorem dL_law_161 : decode cL_law 161 = .ok (.iconst 0, 1) := by decide +kernel
theorem dL_law_162 : decode cL_law 162 = .ok (.ireturn, 1) := by decide +kernel
theorem dL_law_163 : decode cL_law 163 = .ok (.iload_n 1, 1) := by decide +kernel
theorem dL_law_164 : decode cL_law 164 = .ok (.ifCond .eq 16, 3) := by decide +kernel
theorem dL_law_167 : decode cL_law 167 = .ok (.aload_n 3, 1) := by decide +kernel
theorem dL_law_168 : decode cL_law 168 = .ok (.aload 6, 2) := by decide +kernel
theorem dL_law_170 : decode cL_law 170 = .ok (.invokestatic 257, 3) := by decide +kernel
theorem dL_law_173 : decode cL_law 173 = .ok (.ifCond .eq 7, 3) := by decide +kernel
theorem dL_law_176 : decode cL_law 176 = .ok (.iconst 1, 1) := by decide +kernel
theorem dL_law_177 : decode cL_law 177 = .ok (.goto 4, 3) := by decide +kernel
theorem dL_law_180 : decode cL_law 180 = .ok (.iconst 0, 1) := by decide +kernel
theorem dL_law_181 : decode cL_law 181 = .ok (.istore_n 1, 1) := by decide +kernel
theorem dL_law_182 : decode cL_law 182 = .ok (.bipush 9, 2) := by decide +kernel
theorem dL_law_184 : decode cL_law 184 = .ok (.anewarray 142, 3) := by decide +kernel
theorem dL_law_187 : decode cL_law 187 = .ok (.astore 7, 2) := by decide +kernel
theorem dL_law_189 : decode cL_law 189 = .ok (.iconst 0, 1) := by decide +kernel
theorem dL_law_190 : decode cL_law 190 = .ok (.istore 8, 2) := by decide +kernel
theorem dL_law_192 : decode cL_law 192 = .ok (.iconst 0, 1) := by decide +kernel
theorem dL_law_193 : decode cL_law 193 = .ok (.istore 9, 2) := by decide +kernel
theorem dL_law_195 : decode cL_law 195 = .ok (.iload 9, 2) := by decide +kernel
theorem dL_law_197 : decode cL_law 197 = .ok (.bipush 40, 2) := by decide +kernel
theorem dL_law_199 : decode cL_law 199 = .ok (.if_icmp .ge 822, 3) := by decide +kernel
theorem dL_law_202 : decode cL_law 202 = .ok (.iload_n 1, 1) := by decide +kernel
theorem dL_law_203 : decode cL_law 203 = .ok (.ifCond .eq 818, 3) := by decide +kernel
theorem dL_law_206 : decode cL_law 206 = .ok (.aload 6, 2) := by decide +kernel
theorem dL_law_208 : decode cL_law 208 = .ok (.invokevirtual 280, 3) := by decide +kernel
theorem dL_law_211 : decode cL_law 211 = .ok (.astore 10, 2) := by decide +kernel
theorem dL_law_213 : decode cL_law 213 = .ok (.iconst 1, 1) := by decide +kernel
theorem dL_law_214 : decode cL_law 214 = .ok (.istore 11, 2) := by decide +kernel
theorem dL_law_216 : decode cL_law 216 = .ok (.ldc 52, 2) := by decide +kernel
theorem dL_law_218 : decode cL_law 218 = .ok (.istore 12, 2) := by decide +kernel
theorem dL_law_220 : decode cL_law 220 = .ok (.aload 6, 2) := by decide +kernel
theorem dL_law_222 : decode cL_law 222 = .ok (.getfield 155, 3) := by decide +kernel
theorem dL_law_225 : decode cL_law 225 = .ok (.arraylength, 1) := by decide +kernel
theorem dL_law_226 : decode cL_law 226 = .ok (.istore 13, 2) := by decide +kernel
theorem dL_law_228 : decode cL_law 228 = .ok (.aload 5, 2) := by decide +kernel
theorem dL_law_230 : decode cL_law 230 = .ok (.iload 13, 2) := by decide +kernel
theorem dL_law_232 : decode cL_law 232 = .ok (.aload 5, 2) := by decide +kernel
theorem dL_law_234 : decode cL_law 234 = .ok (.bipush 12, 2) := by decide +kernel
theorem dL_law_236 : decode cL_law 236 = .ok (.invokevirtual 124, 3) := by decide +kernel
theorem dL_law_239 : decode cL_law 239 = .ok (.ifCond .eq 8, 3) := by decide +kernel
theorem dL_law_242 : decode cL_law 242 = .ok (.iload 13, 2) := by decide +kernel
theorem dL_law_244 : decode cL_law 244 = .ok (.ifCond .ne 7, 3) := by decide +kernel
theorem dL_law_247 : decode cL_law 247 = .ok (.iconst 1, 1) := by decide +kernel
theorem dL_law_248 : decode cL_law 248 = .ok (.goto 4, 3) := by decide +kernel
theorem dL_law_251 : decode cL_law 251 = .ok (.iconst 0, 1) := by decide +kernel
theorem dL_law_252 : decode cL_law 252 = .ok (.iadd, 1) := by decide +kernel
theorem dL_law_253 : decode cL_law 253 = .ok (.invokevirtual 124, 3) := by decide +kernel
theorem dL_law_256 : decode cL_law 256 = .ok (.istore 14, 2) := by decide +kernel
theorem dL_law_258 : decode cL_law 258 = .ok (.iload 14, 2) := by decide +kernel
theorem dL_law_260 : decode cL_law 260 = .ok (.iload 13, 2) := by decide +kernel
theorem dL_law_262 : decode cL_law 262 = .ok (.if_icmp .ge 7, 3) := by decide +kernel
theorem dL_law_265 : decode cL_law 265 = .ok (.iconst 1, 1) := by decide +kernel
theorem dL_law_266 : decode cL_law 266 = .ok (.goto 4, 3) := by decide +kernel
theorem dL_law_269 : decode cL_law 269 = .ok (.iconst 0, 1) := by decide +kernel
theorem dL_law_270 : decode cL_law 270 = .ok (.istore 15, 2) := by decide +kernel
theorem dL_law_272 : decode cL_law 272 = .ok (.iload 15, 2) := by decide +kernel
theorem dL_law_274 : decode cL_law 274 = .ok (.ifCond .eq 15, 3) := by decide +kernel
theorem dL_law_277 : decode cL_law 277 = .ok (.aload 6, 2) := by decide +kernel
theorem dL_law_279 : decode cL_law 279 = .ok (.getfield 164, 3) := by decide +kernel
theorem dL_law_282 : decode cL_law 282 = .ok (.iload 14, 2) := by decide +kernel
theorem dL_law_284 : decode cL_law 284 = .ok (.aaload, 1) := by decide +kernel
theorem dL_law_285 : decode cL_law 285 = .ok (.arraylength, 1) := by decide +kernel
theorem dL_law_286 : decode cL_law 286 = .ok (.goto 4, 3) := by decide +kernel
theorem dL_law_289 : decode cL_law 289 = .ok (.iconst 0, 1) := by decide +kernel
theorem dL_law_290 : decode cL_law 290 = .ok (.istore 16, 2) := by decide +kernel
theorem dL_law_292 : decode cL_law 292 = .ok (.aload 6, 2) := by decide +kernel
theorem dL_law_294 : decode cL_law 294 = .ok (.invokevirtual 284, 3) := by decide +kernel
theorem dL_law_297 : decode cL_law 297 = .ok (.ifCond .eq 7, 3) := by decide +kernel
theorem dL_law_300 : decode cL_law 300 = .ok (.iconst 0, 1) := by decide +kernel
theorem dL_law_301 : decode cL_law 301 = .ok (.goto 15, 3) := by decide +kernel
theorem dL_law_304 : decode cL_law 304 = .ok (.aload 6, 2) := by decide +kernel
theorem dL_law_306 : decode cL_law 306 = .ok (.getfield 164, 3) := by decide +kernel
theorem dL_law_309 : decode cL_law 309 = .ok (.aload 6, 2) := by decide +kernel
theorem dL_law_311 : decode cL_law 311 = .ok (.getfield 288, 3) := by decide +kernel
theorem dL_law_314 : decode cL_law 314 = .ok (.aaload, 1) := by decide +kernel
theorem dL_law_315 : decode cL_law 315 = .ok (.arraylength, 1) := by decide +kernel
theorem dL_law_316 : decode cL_law 316 = .ok (.istore 17, 2) := by decide +kernel
theorem dL_law_318 : decode cL_law 318 = .ok (.aload 5, 2) := by decide +kernel
theorem dL_law_320 : decode cL_law 320 = .ok (.iload 17, 2) := by decide +kernel
theorem dL_law_322 : decode cL_law 322 = .ok (.aload 5, 2) := by decide +kernel
theorem dL_law_324 : decode cL_law 324 = .ok (.bipush 9, 2) := by decide +kernel
theorem dL_law_326 : decode cL_law 326 = .ok (.invokevirtual 124, 3) := by decide +kernel
theorem dL_law_329 : decode cL_law 329 = .ok (.ifCond .eq 8, 3) := by decide +kernel
theorem dL_law_332 : decode cL_law 332 = .ok (.iload 17, 2) := by decide +kernel
theorem dL_law_334 : decode cL_law 334 = .ok (.ifCond .ne 7, 3) := by decide +kernel
theorem dL_law_337 : decode cL_law 337 = .ok (.iconst 1, 1) := by decide +kernel
theorem dL_law_338 : decode cL_law 338 = .ok (.goto 4, 3) := by decide +kernel
theorem dL_law_341 : decode cL_law 341 = .ok (.iconst 0, 1) := by decide +kernel
theorem dL_law_342 : decode cL_law 342 = .ok (.iadd, 1) := by decide +kernel
theorem dL_law_343 : decode cL_law 343 = .ok (.invokevirtual 124, 3) := by decide +kernel
theorem dL_law_346 : decode cL_law 346 = .ok (.istore 18, 2) := by decide +kernel
theorem dL_law_348 : decode cL_law 348 = .ok (.aload 5, 2) := by decide +kernel
theorem dL_law_350 : decode cL_law 350 = .ok (.bipush 9, 2) := by decide +kernel
theorem dL_law_352 : decode cL_law 352 = .ok (.invokevirtual 124, 3) := by decide +kernel
theorem dL_law_355 : decode cL_law 355 = .ok (.tableswitch 530 0 5 #[37, 207, 319, 365, 365, 365], 37) := by decide +kernel
theorem dL_law_392 : decode cL_law 392 = .ok (.aload 5, 2) := by decide +kernel
theorem dL_law_394 : decode cL_law 394 = .ok (.bipush 9, 2) := by decide +kernel
theorem dL_law_396 : decode cL_law 396 = .ok (.invokevirtual 124, 3) := by decide +kernel
theorem dL_law_399 : decode cL_law 399 = .ok (.ifCond .le 7, 3) := by decide +kernel
theorem dL_law_402 : decode cL_law 402 = .ok (.iconst 1, 1) := by decide +kernel
theorem dL_law_403 : decode cL_law 403 = .ok (.goto 4, 3) := by decide +kernel
theorem dL_law_406 : decode cL_law 406 = .ok (.iconst 0, 1) := by decide +kernel
theorem dL_law_407 : decode cL_law 407 = .ok (.istore 19, 2) := by decide +kernel
theorem dL_law_409 : decode cL_law 409 = .ok (.aload 5, 2) := by decide +kernel
theorem dL_law_411 : decode cL_law 411 = .ok (.aload 6, 2) := by decide +kernel
theorem dL_law_413 : decode cL_law 413 = .ok (.getfield 145, 3) := by decide +kernel
theorem dL_law_416 : decode cL_law 416 = .ok (.invokestatic 170, 3) := by decide +kernel
theorem dL_law_419 : decode cL_law 419 = .ok (.astore 20, 2) := by decide +kernel
theorem dL_law_421 : decode cL_law 421 = .ok (.iload 19, 2) := by decide +kernel
theorem dL_law_423 : decode cL_law 423 = .ok (.ifCond .eq 15, 3) := by decide +kernel
theorem dL_law_426 : decode cL_law 426 = .ok (.iconst 1, 1) := by decide +kernel
theorem dL_law_427 : decode cL_law 427 = .ok (.aload 5, 2) := by decide +kernel
theorem dL_law_429 : decode cL_law 429 = .ok (.bipush 20, 2) := by decide +kernel
theorem dL_law_431 : decode cL_law 431 = .ok (.invokevirtual 124, 3) := by decide +kernel
theorem dL_law_434 : decode cL_law 434 = .ok (.iadd, 1) := by decide +kernel
theorem dL_law_435 : decode cL_law 435 = .ok (.goto 6, 3) := by decide +kernel
theorem dL_law_438 : decode cL_law 438 = .ok (.sipush 1000, 3) := by decide +kernel
theorem dL_law_441 : decode cL_law 441 = .ok (.istore 21, 2) := by decide +kernel
theorem dL_law_443 : decode cL_law 443 = .ok (.iload 15, 2) := by decide +kernel
theorem dL_law_445 : decode cL_law 445 = .ok (.ifCond .eq 19, 3) := by decide +kernel
theorem dL_law_448 : decode cL_law 448 = .ok (.iload 19, 2) := by decide +kernel
theorem dL_law_450 : decode cL_law 450 = .ok (.ifCond .eq 14, 3) := by decide +kernel
theorem dL_law_453 : decode cL_law 453 = .ok (.iload 16, 2) := by decide +kernel
theorem dL_law_455 : decode cL_law 455 = .ok (.bipush 8, 2) := by decide +kernel
theorem dL_law_457 : decode cL_law 457 = .ok (.if_icmp .ge 7, 3) := by decide +kernel
theorem dL_law_460 : decode cL_law 460 = .ok (.iconst 1, 1) := by decide +kernel
theorem dL_law_461 : decode cL_law 461 = .ok (.goto 4, 3) := by decide +kernel
theorem dL_law_464 : decode cL_law 464 = .ok (.iconst 0, 1) := by decide +kernel
theorem dL_law_465 : decode cL_law 465 = .ok (.istore 11, 2) := by decide +kernel
theorem dL_law_467 : decode cL_law 467 = .ok (.iload 15, 2) := by decide +kernel
theorem dL_law_469 : decode cL_law 469 = .ok (.ifCond .eq 29, 3) := by decide +kernel
theorem dL_law_472 : decode cL_law 472 = .ok (.iload 19, 2) := by decide +kernel
theorem dL_law_474 : decode cL_law 474 = .ok (.ifCond .ne 8, 3) := by decide +kernel
theorem dL_law_477 : decode cL_law 477 = .ok (.ldc 42, 2) := by decide +kernel
theorem dL_law_479 : decode cL_law 479 = .ok (.goto 17, 3) := by decide +kernel
theorem dL_law_482 : decode cL_law 482 = .ok (.iload 11, 2) := by decide +kernel
theorem dL_law_484 : decode cL_law 484 = .ok (.ifCond .eq 10, 3) := by decide +kernel
theorem dL_law_487 : decode cL_law 487 = .ok (.iload 16, 2) := by decide +kernel
theorem dL_law_489 : decode cL_law 489 = .ok (.iconst 1, 1) := by decide +kernel
theorem dL_law_490 : decode cL_law 490 = .ok (.iadd, 1) := by decide +kernel
theorem dL_law_491 : decode cL_law 491 = .ok (.goto 5, 3) := by decide +kernel
theorem dL_law_494 : decode cL_law 494 = .ok (.ldc 99, 2) := by decide +kernel
theorem dL_law_496 : decode cL_law 496 = .ok (.istore 12, 2) := by decide +kernel
theorem dL_law_498 : decode cL_law 498 = .ok (.iload 11, 2) := by decide +kernel
theorem dL_law_500 : decode cL_law 500 = .ok (.ifCond .eq 35, 3) := by decide +kernel
theorem dL_law_503 : decode cL_law 503 = .ok (.aload 6, 2) := by decide +kernel
theorem dL_law_505 : decode cL_law 505 = .ok (.getfield 164, 3) := by decide +kernel
theorem dL_law_508 : decode cL_law 508 = .ok (.iload 14, 2) := by decide +kernel
theorem dL_law_510 : decode cL_law 510 = .ok (.aload 6, 2) := by decide +kernel
theorem dL_law_512 : decode cL_law 512 = .ok (.getfield 164, 3) := by decide +kernel
theorem dL_law_515 : decode cL_law 515 = .ok (.iload 14, 2) := by decide +kernel
theorem dL_law_517 : decode cL_law 517 = .ok (.aaload, 1) := by decide +kernel
theorem dL_law_518 : decode cL_law 518 = .ok (.new 129, 3) := by decide +kernel
theorem dL_law_521 : decode cL_law 521 = .ok (.dup, 1) := by decide +kernel
theorem dL_law_522 : decode cL_law 522 = .ok (.iload 14, 2) := by decide +kernel
theorem dL_law_524 : decode cL_law 524 = .ok (.aload 20, 2) := by decide +kernel
theorem dL_law_526 : decode cL_law 526 = .ok (.iload 21, 2) := by decide +kernel
theorem dL_law_528 : decode cL_law 528 = .ok (.invokespecial 174, 3) := by decide +kernel
theorem dL_law_531 : decode cL_law 531 = .ok (.invokestatic 177, 3) := by decide +kernel
theorem dL_law_534 : decode cL_law 534 = .ok (.aastore, 1) := by decide +kernel
theorem dL_law_535 : decode cL_law 535 = .ok (.aload_n 3, 1) := by decide +kernel
theorem dL_law_536 : decode cL_law 536 = .ok (.iload 14, 2) := by decide +kernel
theorem dL_law_538 : decode cL_law 538 = .ok (.aload 20, 2) := by decide +kernel
theorem dL_law_540 : decode cL_law 540 = .ok (.invokestatic 185, 3) := by decide +kernel
theorem dL_law_543 : decode cL_law 543 = .ok (.iload 21, 2) := by decide +kernel
theorem dL_law_545 : decode cL_law 545 = .ok (.invokestatic 272, 3) := by decide +kernel
theorem dL_law_548 : decode cL_law 548 = .ok (.iload 12, 2) := by decide +kernel
theorem dL_law_550 : decode cL_law 550 = .ok (.if_icmp .ne 7, 3) := by decide +kernel
theorem dL_law_553 : decode cL_law 553 = .ok (.iconst 1, 1) := by decide +kernel
theorem dL_law_554 : decode cL_law 554 = .ok (.goto 4, 3) := by decide +kernel
theorem dL_law_557 : decode cL_law 557 = .ok (.iconst 0, 1) := by decide +kernel
theorem dL_law_558 : decode cL_law 558 = .ok (.istore_n 1, 1) := by decide +kernel
theorem dL_law_559 : decode cL_law 559 = .ok (.goto 396, 3) := by decide +kernel
theorem dL_law_562 : decode cL_law 562 = .ok (.aload 5, 2) := by decide +kernel
theorem dL_law_564 : decode cL_law 564 = .ok (.iload 16, 2) := by decide +kernel
theorem dL_law_566 : decode cL_law 566 = .ok (.iconst 1, 1) := by decide +kernel
theorem dL_law_567 : decode cL_law 567 = .ok (.iadd, 1) := by decide +kernel
theorem dL_law_568 : decode cL_law 568 = .ok (.invokevirtual 124, 3) := by decide +kernel
theorem dL_law_571 : decode cL_law 571 = .ok (.istore 22, 2) := by decide +kernel
theorem dL_law_573 : decode cL_law 573 = .ok (.iload 15, 2) := by decide +kernel
theorem dL_law_575 : decode cL_law 575 = .ok (.ifCond .eq 14, 3) := by decide +kernel
theorem dL_law_578 : decode cL_law 578 = .ok (.iload 22, 2) := by decide +kernel
theorem dL_law_580 : decode cL_law 580 = .ok (.iload 16, 2) := by decide +kernel
theorem dL_law_582 : decode cL_law 582 = .ok (.if_icmp .ge 7, 3) := by decide +kernel
theorem dL_law_585 : decode cL_law 585 = .ok (.iconst 1, 1) := by decide +kernel
theorem dL_law_586 : decode cL_law 586 = .ok (.goto 4, 3) := by decide +kernel
theorem dL_law_589 : decode cL_law 589 = .ok (.iconst 0, 1) := by decide +kernel
theorem dL_law_590 : decode cL_law 590 = .ok (.istore 11, 2) := by decide +kernel
theorem dL_law_592 : decode cL_law 592 = .ok (.iload 15, 2) := by decide +kernel
theorem dL_law_594 : decode cL_law 594 = .ok (.ifCond .eq 32, 3) := by decide +kernel
theorem dL_law_597 : decode cL_law 597 = .ok (.iload 11, 2) := by decide +kernel
theorem dL_law_599 : decode cL_law 599 = .ok (.ifCond .eq 23, 3) := by decide +kernel
theorem dL_law_602 : decode cL_law 602 = .ok (.aload 6, 2) := by decide +kernel
theorem dL_law_604 : decode cL_law 604 = .ok (.getfield 164, 3) := by decide +kernel
theorem dL_law_607 : decode cL_law 607 = .ok (.iload 14, 2) := by decide +kernel
theorem dL_law_609 : decode cL_law 609 = .ok (.aaload, 1) := by decide +kernel
theorem dL_law_610 : decode cL_law 610 = .ok (.iload 22, 2) := by decide +kernel
theorem dL_law_612 : decode cL_law 612 = .ok (.aaload, 1) := by decide +kernel
theorem dL_law_613 : decode cL_law 613 = .ok (.getfield 182, 3) := by decide +kernel
theorem dL_law_616 : decode cL_law 616 = .ok (.invokestatic 185, 3) := by decide +kernel
theorem dL_law_619 : decode cL_law 619 = .ok (.goto 5, 3) := by decide +kernel
theorem dL_law_622 : decode cL_law 622 = .ok (.ldc 59, 2) := by decide +kernel
theorem dL_law_624 : decode cL_law 624 = .ok (.istore 12, 2) := by decide +kernel
theorem dL_law_626 : decode cL_law 626 = .ok (.iload 11, 2) := by decide +kernel
theorem dL_law_628 : decode cL_law 628 = .ok (.ifCond .eq 24, 3) := by decide +kernel
theorem dL_law_631 : decode cL_law 631 = .ok (.aload 6, 2) := by decide +kernel
theorem dL_law_633 : decode cL_law 633 = .ok (.getfield 164, 3) := by decide +kernel
theorem dL_law_636 : decode cL_law 636 = .ok (.iload 14, 2) := by decide +kernel
theorem dL_law_638 : decode cL_law 638 = .ok (.aload 6, 2) := by decide +kernel
theorem dL_law_640 : decode cL_law 640 = .ok (.getfield 164, 3) := by decide +kernel
theorem dL_law_643 : decode cL_law 643 = .ok (.iload 14, 2) := by decide +kernel
theorem dL_law_645 : decode cL_law 645 = .ok (.aaload, 1) := by decide +kernel
theorem dL_law_646 : decode cL_law 646 = .ok (.iload 22, 2) := by decide +kernel
theorem dL_law_648 : decode cL_law 648 = .ok (.invokestatic 291, 3) := by decide +kernel
theorem dL_law_651 : decode cL_law 651 = .ok (.aastore, 1) := by decide +kernel
theorem dL_law_652 : decode cL_law 652 = .ok (.aload_n 3, 1) := by decide +kernel
theorem dL_law_653 : decode cL_law 653 = .ok (.iload 14, 2) := by decide +kernel
theorem dL_law_655 : decode cL_law 655 = .ok (.iload 22, 2) := by decide +kernel
theorem dL_law_657 : decode cL_law 657 = .ok (.invokestatic 295, 3) := by decide +kernel
theorem dL_law_660 : decode cL_law 660 = .ok (.iload 12, 2) := by decide +kernel
theorem dL_law_662 : decode cL_law 662 = .ok (.if_icmp .ne 7, 3) := by decide +kernel
theorem dL_law_665 : decode cL_law 665 = .ok (.iconst 1, 1) := by decide +kernel
theorem dL_law_666 : decode cL_law 666 = .ok (.goto 4, 3) := by decide +kernel
theorem dL_law_669 : decode cL_law 669 = .ok (.iconst 0, 1) := by decide +kernel
theorem dL_law_670 : decode cL_law 670 = .ok (.istore_n 1, 1) := by decide +kernel
theorem dL_law_671 : decode cL_law 671 = .ok (.goto 284, 3) := by decide +kernel
theorem dL_law_674 : decode cL_law 674 = .ok (.aload 6, 2) := by decide +kernel
theorem dL_law_676 : decode cL_law 676 = .ok (.invokevirtual 284, 3) := by decide +kernel
theorem dL_law_679 : decode cL_law 679 = .ok (.ifCond .ne 7, 3) := by decide +kernel
theorem dL_law_682 : decode cL_law 682 = .ok (.iconst 1, 1) := by decide +kernel
theorem dL_law_683 : decode cL_law 683 = .ok (.goto 4, 3) := by decide +kernel
theorem dL_law_686 : decode cL_law 686 = .ok (.iconst 0, 1) := by decide +kernel
theorem dL_law_687 : decode cL_law 687 = .ok (.istore 11, 2) := by decide +kernel
theorem dL_law_689 : decode cL_law 689 = .ok (.aload_n 3, 1) := by decide +kernel
theorem dL_law_690 : decode cL_law 690 = .ok (.invokestatic 269, 3) := by decide +kernel
theorem dL_law_693 : decode cL_law 693 = .ok (.iload 11, 2) := by decide +kernel
theorem dL_law_695 : decode cL_law 695 = .ok (.ifCond .eq 11, 3) := by decide +kernel
theorem dL_law_698 : decode cL_law 698 = .ok (.aload 6, 2) := by decide +kernel
theorem dL_law_700 : decode cL_law 700 = .ok (.invokevirtual 297, 3) := by decide +kernel
theorem dL_law_703 : decode cL_law 703 = .ok (.goto 5, 3) := by decide +kernel
theorem dL_law_706 : decode cL_law 706 = .ok (.ldc 99, 2) := by decide +kernel
theorem dL_law_708 : decode cL_law 708 = .ok (.if_icmp .ne 7, 3) := by decide +kernel
theorem dL_law_711 : decode cL_law 711 = .ok (.iconst 1, 1) := by decide +kernel
theorem dL_law_712 : decode cL_law 712 = .ok (.goto 4, 3) := by decide +kernel
theorem dL_law_715 : decode cL_law 715 = .ok (.iconst 0, 1) := by decide +kernel
theorem dL_law_716 : decode cL_law 716 = .ok (.istore_n 1, 1) := by decide +kernel
theorem dL_law_717 : decode cL_law 717 = .ok (.goto 238, 3) := by decide +kernel
theorem dL_law_720 : decode cL_law 720 = .ok (.aload 5, 2) := by decide +kernel
theorem dL_law_722 : decode cL_law 722 = .ok (.aload 6, 2) := by decide +kernel
theorem dL_law_724 : decode cL_law 724 = .ok (.getfield 228, 3) := by decide +kernel
theorem dL_law_727 : decode cL_law 727 = .ok (.arraylength, 1) := by decide +kernel
theorem dL_law_728 : decode cL_law 728 = .ok (.iconst 1, 1) := by decide +kernel
theorem dL_law_729 : decode cL_law 729 = .ok (.iadd, 1) := by decide +kernel
theorem dL_law_730 : decode cL_law 730 = .ok (.invokevirtual 124, 3) := by decide +kernel
theorem dL_law_733 : decode cL_law 733 = .ok (.istore 23, 2) := by decide +kernel
theorem dL_law_735 : decode cL_law 735 = .ok (.aload 6, 2) := by decide +kernel
theorem dL_law_737 : decode cL_law 737 = .ok (.invokevirtual 284, 3) := by decide +kernel
theorem dL_law_740 : decode cL_law 740 = .ok (.ifCond .ne 25, 3) := by decide +kernel
theorem dL_law_743 : decode cL_law 743 = .ok (.iload 18, 2) := by decide +kernel
theorem dL_law_745 : decode cL_law 745 = .ok (.iload 17, 2) := by decide +kernel
theorem dL_law_747 : decode cL_law 747 = .ok (.if_icmp .ge 18, 3) := by decide +kernel
theorem dL_law_750 : decode cL_law 750 = .ok (.iload 23, 2) := by decide +kernel
theorem dL_law_752 : decode cL_law 752 = .ok (.aload 6, 2) := by decide +kernel
theorem dL_law_754 : decode cL_law 754 = .ok (.getfield 228, 3) := by decide +kernel
theorem dL_law_757 : decode cL_law 757 = .ok (.arraylength, 1) := by decide +kernel
theorem dL_law_758 : decode cL_law 758 = .ok (.if_icmp .ge 7, 3) := by decide +kernel
theorem dL_law_761 : decode cL_law 761 = .ok (.iconst 1, 1) := by decide +kernel
theorem dL_law_762 : decode cL_law 762 = .ok (.goto 4, 3) := by decide +kernel
theorem dL_law_765 : decode cL_law 765 = .ok (.iconst 0, 1) := by decide +kernel
theorem dL_law_766 : decode cL_law 766 = .ok (.istore 11, 2) := by decide +kernel
theorem dL_law_768 : decode cL_law 768 = .ok (.aload 6, 2) := by decide +kernel
theorem dL_law_770 : decode cL_law 770 = .ok (.invokevirtual 284, 3) := by decide +kernel
theorem dL_law_773 : decode cL_law 773 = .ok (.ifCond .eq 8, 3) := by decide +kernel
theorem dL_law_776 : decode cL_law 776 = .ok (.ldc 99, 2) := by decide +kernel
theorem dL_law_778 : decode cL_law 778 = .ok (.goto 5, 3) := by decide +kernel
theorem dL_law_781 : decode cL_law 781 = .ok (.ldc 59, 2) := by decide +kernel
theorem dL_law_783 : decode cL_law 783 = .ok (.istore 12, 2) := by decide +kernel
theorem dL_law_785 : decode cL_law 785 = .ok (.iconst 0, 1) := by decide +kernel
theorem dL_law_786 : decode cL_law 786 = .ok (.istore 24, 2) := by decide +kernel
theorem dL_law_788 : decode cL_law 788 = .ok (.iload 24, 2) := by decide +kernel
theorem dL_law_790 : decode cL_law 790 = .ok (.iload 17, 2) := by decide +kernel
theorem dL_law_792 : decode cL_law 792 = .ok (.if_icmp .ge 55, 3) := by decide +kernel
theorem dL_law_795 : decode cL_law 795 = .ok (.iload 11, 2) := by decide +kernel
theorem dL_law_797 : decode cL_law 797 = .ok (.ifCond .eq 50, 3) := by decide +kernel
theorem dL_law_800 : decode cL_law 800 = .ok (.aload 6, 2) := by decide +kernel
theorem dL_law_802 : decode cL_law 802 = .ok (.getfield 164, 3) := by decide +kernel
theorem dL_law_805 : decode cL_law 805 = .ok (.aload 6, 2) := by decide +kernel
theorem dL_law_807 : decode cL_law 807 = .ok (.getfield 288, 3) := by decide +kernel
theorem dL_law_810 : decode cL_law 810 = .ok (.aaload, 1) := by decide +kernel
theorem dL_law_811 : decode cL_law 811 = .ok (.iload 24, 2) := by decide +kernel
theorem dL_law_813 : decode cL_law 813 = .ok (.aaload, 1) := by decide +kernel
theorem dL_law_814 : decode cL_law 814 = .ok (.getfield 182, 3) := by decide +kernel
theorem dL_law_817 : decode cL_law 817 = .ok (.aload 6, 2) := by decide +kernel
theorem dL_law_819 : decode cL_law 819 = .ok (.getfield 228, 3) := by decide +kernel
theorem dL_law_822 : decode cL_law 822 = .ok (.iload 23, 2) := by decide +kernel
theorem dL_law_824 : decode cL_law 824 = .ok (.aaload, 1) := by decide +kernel
theorem dL_law_825 : decode cL_law 825 = .ok (.getfield 182, 3) := by decide +kernel
theorem dL_law_828 : decode cL_law 828 = .ok (.invokestatic 116, 3) := by decide +kernel
theorem dL_law_831 : decode cL_law 831 = .ok (.invokestatic 112, 3) := by decide +kernel
theorem dL_law_834 : decode cL_law 834 = .ok (.ifCond .eq 7, 3) := by decide +kernel
theorem dL_law_837 : decode cL_law 837 = .ok (.iload 24, 2) := by decide +kernel
theorem dL_law_839 : decode cL_law 839 = .ok (.istore 18, 2) := by decide +kernel
theorem dL_law_841 : decode cL_law 841 = .ok (.iinc 24 1, 3) := by decide +kernel
theorem dL_law_844 : decode cL_law 844 = .ok (.goto (-56), 3) := by decide +kernel
theorem dL_law_847 : decode cL_law 847 = .ok (.iload 11, 2) := by decide +kernel
theorem dL_law_849 : decode cL_law 849 = .ok (.ifCond .eq 14, 3) := by decide +kernel
theorem dL_law_852 : decode cL_law 852 = .ok (.aload 6, 2) := by decide +kernel
theorem dL_law_854 : decode cL_law 854 = .ok (.iload 18, 2) := by decide +kernel
theorem dL_law_856 : decode cL_law 856 = .ok (.iload 23, 2) := by decide +kernel
theorem dL_law_858 : decode cL_law 858 = .ok (.invokevirtual 298, 3) := by decide +kernel
theorem dL_law_861 : decode cL_law 861 = .ok (.istore 12, 2) := by decide +kernel
theorem dL_law_863 : decode cL_law 863 = .ok (.aload_n 3, 1) := by decide +kernel
theorem dL_law_864 : decode cL_law 864 = .ok (.iload 18, 2) := by decide +kernel
theorem dL_law_866 : decode cL_law 866 = .ok (.iload 23, 2) := by decide +kernel
theorem dL_law_868 : decode cL_law 868 = .ok (.invokestatic 299, 3) := by decide +kernel
theorem dL_law_871 : decode cL_law 871 = .ok (.iload 12, 2) := by decide +kernel
theorem dL_law_873 : decode cL_law 873 = .ok (.if_icmp .ne 7, 3) := by decide +kernel
theorem dL_law_876 : decode cL_law 876 = .ok (.iconst 1, 1) := by decide +kernel
theorem dL_law_877 : decode cL_law 877 = .ok (.goto 4, 3) := by decide +kernel
theorem dL_law_880 : decode cL_law 880 = .ok (.iconst 0, 1) := by decide +kernel
theorem dL_law_881 : decode cL_law 881 = .ok (.istore_n 1, 1) := by decide +kernel
theorem dL_law_882 : decode cL_law 882 = .ok (.goto 73, 3) := by decide +kernel
theorem dL_law_885 : decode cL_law 885 = .ok (.aload 6, 2) := by decide +kernel
theorem dL_law_887 : decode cL_law 887 = .ok (.invokevirtual 284, 3) := by decide +kernel
theorem dL_law_890 : decode cL_law 890 = .ok (.ifCond .ne 14, 3) := by decide +kernel
theorem dL_law_893 : decode cL_law 893 = .ok (.iload 18, 2) := by decide +kernel
theorem dL_law_895 : decode cL_law 895 = .ok (.iload 17, 2) := by decide +kernel
theorem dL_law_897 : decode cL_law 897 = .ok (.if_icmp .ge 7, 3) := by decide +kernel
theorem dL_law_900 : decode cL_law 900 = .ok (.iconst 1, 1) := by decide +kernel
theorem dL_law_901 : decode cL_law 901 = .ok (.goto 4, 3) := by decide +kernel
theorem dL_law_904 : decode cL_law 904 = .ok (.iconst 0, 1) := by decide +kernel
theorem dL_law_905 : decode cL_law 905 = .ok (.istore 11, 2) := by decide +kernel
theorem dL_law_907 : decode cL_law 907 = .ok (.aload 6, 2) := by decide +kernel
theorem dL_law_909 : decode cL_law 909 = .ok (.invokevirtual 284, 3) := by decide +kernel
theorem dL_law_912 : decode cL_law 912 = .ok (.ifCond .eq 8, 3) := by decide +kernel
theorem dL_law_915 : decode cL_law 915 = .ok (.ldc 99, 2) := by decide +kernel
theorem dL_law_917 : decode cL_law 917 = .ok (.goto 5, 3) := by decide +kernel
theorem dL_law_920 : decode cL_law 920 = .ok (.ldc 59, 2) := by decide +kernel
theorem dL_law_922 : decode cL_law 922 = .ok (.istore 12, 2) := by decide +kernel
theorem dL_law_924 : decode cL_law 924 = .ok (.iload 11, 2) := by decide +kernel
theorem dL_law_926 : decode cL_law 926 = .ok (.ifCond .eq 12, 3) := by decide +kernel
theorem dL_law_929 : decode cL_law 929 = .ok (.aload 6, 2) := by decide +kernel
theorem dL_law_931 : decode cL_law 931 = .ok (.iload 18, 2) := by decide +kernel
theorem dL_law_933 : decode cL_law 933 = .ok (.invokevirtual 301, 3) := by decide +kernel
theorem dL_law_936 : decode cL_law 936 = .ok (.istore 12, 2) := by decide +kernel
theorem dL_law_938 : decode cL_law 938 = .ok (.aload_n 3, 1) := by decide +kernel
theorem dL_law_939 : decode cL_law 939 = .ok (.iload 18, 2) := by decide +kernel
theorem dL_law_941 : decode cL_law 941 = .ok (.invokestatic 267, 3) := by decide +kernel
theorem dL_law_944 : decode cL_law 944 = .ok (.iload 12, 2) := by decide +kernel
theorem dL_law_946 : decode cL_law 946 = .ok (.if_icmp .ne 7, 3) := by decide +kernel
theorem dL_law_949 : decode cL_law 949 = .ok (.iconst 1, 1) := by decide +kernel
theorem dL_law_950 : decode cL_law 950 = .ok (.goto 4, 3) := by decide +kernel
theorem dL_law_953 : decode cL_law 953 = .ok (.iconst 0, 1) := by decide +kernel
theorem dL_law_954 : decode cL_law 954 = .ok (.istore_n 1, 1) := by decide +kernel
theorem dL_law_955 : decode cL_law 955 = .ok (.iload 11, 2) := by decide +kernel
theorem dL_law_957 : decode cL_law 957 = .ok (.ifCond .eq 39, 3) := by decide +kernel
theorem dL_law_960 : decode cL_law 960 = .ok (.bipush 8, 2) := by decide +kernel
theorem dL_law_962 : decode cL_law 962 = .ok (.istore 19, 2) := by decide +kernel
theorem dL_law_964 : decode cL_law 964 = .ok (.iload 19, 2) := by decide +kernel
theorem dL_law_966 : decode cL_law 966 = .ok (.ifCond .le 21, 3) := by decide +kernel
theorem dL_law_969 : decode cL_law 969 = .ok (.aload 7, 2) := by decide +kernel
theorem dL_law_971 : decode cL_law 971 = .ok (.iload 19, 2) := by decide +kernel
theorem dL_law_973 : decode cL_law 973 = .ok (.aload 7, 2) := by decide +kernel
theorem dL_law_975 : decode cL_law 975 = .ok (.iload 19, 2) := by decide +kernel
theorem dL_law_977 : decode cL_law 977 = .ok (.iconst 1, 1) := by decide +kernel
theorem dL_law_978 : decode cL_law 978 = .ok (.isub, 1) := by decide +kernel
theorem dL_law_979 : decode cL_law 979 = .ok (.aaload, 1) := by decide +kernel
theorem dL_law_980 : decode cL_law 980 = .ok (.aastore, 1) := by decide +kernel
theorem dL_law_981 : decode cL_law 981 = .ok (.iinc 19 (-1), 3) := by decide +kernel
theorem dL_law_984 : decode cL_law 984 = .ok (.goto (-20), 3) := by decide +kernel
theorem dL_law_987 : decode cL_law 987 = .ok (.aload 7, 2) := by decide +kernel
theorem dL_law_989 : decode cL_law 989 = .ok (.iconst 0, 1) := by decide +kernel
theorem dL_law_990 : decode cL_law 990 = .ok (.aload 10, 2) := by decide +kernel
theorem dL_law_992 : decode cL_law 992 = .ok (.aastore, 1) := by decide +kernel
theorem dL_law_993 : decode cL_law 993 = .ok (.iinc 8 1, 3) := by decide +kernel
theorem dL_law_996 : decode cL_law 996 = .ok (.iload_n 1, 1) := by decide +kernel
theorem dL_law_997 : decode cL_law 997 = .ok (.ifCond .eq 16, 3) := by decide +kernel
theorem dL_law_1000 : decode cL_law 1000 = .ok (.aload_n 3, 1) := by decide +kernel
theorem dL_law_1001 : decode cL_law 1001 = .ok (.aload 6, 2) := by decide +kernel
theorem dL_law_1003 : decode cL_law 1003 = .ok (.invokestatic 257, 3) := by decide +kernel
theorem dL_law_1006 : decode cL_law 1006 = .ok (.ifCond .eq 7, 3) := by decide +kernel
theorem dL_law_1009 : decode cL_law 1009 = .ok (.iconst 1, 1) := by decide +kernel
theorem dL_law_1010 : decode cL_law 1010 = .ok (.goto 4, 3) := by decide +kernel
theorem dL_law_1013 : decode cL_law 1013 = .ok (.iconst 0, 1) := by decide +kernel
theorem dL_law_1014 : decode cL_law 1014 = .ok (.istore_n 1, 1) := by decide +kernel
theorem dL_law_1015 : decode cL_law 1015 = .ok (.iinc 9 1, 3) := by decide +kernel
theorem dL_law_1018 : decode cL_law 1018 = .ok (.goto (-823), 3) := by decide +kernel
theorem dL_law_1021 : decode cL_law 1021 = .ok (.iconst 0, 1) := by decide +kernel
theorem dL_law_1022 : decode cL_law 1022 = .ok (.istore 9, 2) := by decide +kernel
theorem dL_law_1024 : decode cL_law 1024 = .ok (.iload 9, 2) := by decide +kernel
theorem dL_law_1026 : decode cL_law 1026 = .ok (.bipush 8, 2) := by decide +kernel
theorem dL_law_1028 : decode cL_law 1028 = .ok (.if_icmp .ge 45, 3) := by decide +kernel
theorem dL_law_1031 : decode cL_law 1031 = .ok (.iload 9, 2) := by decide +kernel
theorem dL_law_1033 : decode cL_law 1033 = .ok (.iload 8, 2) := by decide +kernel
theorem dL_law_1035 : decode cL_law 1035 = .ok (.if_icmp .ge 38, 3) := by decide +kernel
theorem dL_law_1038 : decode cL_law 1038 = .ok (.iload_n 1, 1) := by decide +kernel
theorem dL_law_1039 : decode cL_law 1039 = .ok (.ifCond .eq 34, 3) := by decide +kernel
theorem dL_law_1042 : decode cL_law 1042 = .ok (.aload_n 3, 1) := by decide +kernel
theorem dL_law_1043 : decode cL_law 1043 = .ok (.invokevirtual 264, 3) := by decide +kernel
theorem dL_law_1046 : decode cL_law 1046 = .ok (.ifCond .lt 19, 3) := by decide +kernel
theorem dL_law_1049 : decode cL_law 1049 = .ok (.aload_n 3, 1) := by decide +kernel
theorem dL_law_1050 : decode cL_law 1050 = .ok (.aload 7, 2) := by decide +kernel
theorem dL_law_1052 : decode cL_law 1052 = .ok (.iload 9, 2) := by decide +kernel
theorem dL_law_1054 : decode cL_law 1054 = .ok (.aaload, 1) := by decide +kernel
theorem dL_law_1055 : decode cL_law 1055 = .ok (.invokestatic 257, 3) := by decide +kernel
theorem dL_law_1058 : decode cL_law 1058 = .ok (.ifCond .eq 7, 3) := by decide +kernel
theorem dL_law_1061 : decode cL_law 1061 = .ok (.iconst 1, 1) := by decide +kernel
theorem dL_law_1062 : decode cL_law 1062 = .ok (.goto 4, 3) := by decide +kernel
theorem dL_law_1065 : decode cL_law 1065 = .ok (.iconst 0, 1) := by decide +kernel
theorem dL_law_1066 : decode cL_law 1066 = .ok (.istore_n 1, 1) := by decide +kernel
theorem dL_law_1067 : decode cL_law 1067 = .ok (.iinc 9 1, 3) := by decide +kernel
theorem dL_law_1070 : decode cL_law 1070 = .ok (.goto (-46), 3) := by decide +kernel
theorem dL_law_1073 : decode cL_law 1073 = .ok (.iload_n 1, 1) := by decide +kernel
theorem dL_law_1074 : decode cL_law 1074 = .ok (.ifCond .eq 61, 3) := by decide +kernel
theorem dL_law_1077 : decode cL_law 1077 = .ok (.aload_n 3, 1) := by decide +kernel
theorem dL_law_1078 : decode cL_law 1078 = .ok (.iconst 1, 1) := by decide +kernel
theorem dL_law_1079 : decode cL_law 1079 = .ok (.invokestatic 19, 3) := by decide +kernel
theorem dL_law_1082 : decode cL_law 1082 = .ok (.ldc 42, 2) := by decide +kernel
theorem dL_law_1084 : decode cL_law 1084 = .ok (.if_icmp .ne 51, 3) := by decide +kernel
theorem dL_law_1087 : decode cL_law 1087 = .ok (.aload_n 3, 1) := by decide +kernel
theorem dL_law_1088 : decode cL_law 1088 = .ok (.iconst (-1), 1) := by decide +kernel
theorem dL_law_1089 : decode cL_law 1089 = .ok (.iconst (-1), 1) := by decide +kernel
theorem dL_law_1090 : decode cL_law 1090 = .ok (.bipush 9, 2) := by decide +kernel
theorem dL_law_1092 : decode cL_law 1092 = .ok (.invokestatic 242, 3) := by decide +kernel
theorem dL_law_1095 : decode cL_law 1095 = .ok (.ldc 52, 2) := by decide +kernel
theorem dL_law_1097 : decode cL_law 1097 = .ok (.if_icmp .ne 38, 3) := by decide +kernel
theorem dL_law_1100 : decode cL_law 1100 = .ok (.aload_n 3, 1) := by decide +kernel
theorem dL_law_1101 : decode cL_law 1101 = .ok (.iconst (-1), 1) := by decide +kernel
theorem dL_law_1102 : decode cL_law 1102 = .ok (.iconst 0, 1) := by decide +kernel
theorem dL_law_1103 : decode cL_law 1103 = .ok (.invokestatic 302, 3) := by decide +kernel
theorem dL_law_1106 : decode cL_law 1106 = .ok (.ldc 42, 2) := by decide +kernel
theorem dL_law_1108 : decode cL_law 1108 = .ok (.if_icmp .ne 27, 3) := by decide +kernel
theorem dL_law_1111 : decode cL_law 1111 = .ok (.aload_n 3, 1) := by decide +kernel
theorem dL_law_1112 : decode cL_law 1112 = .ok (.iconst (-1), 1) := by decide +kernel
theorem dL_law_1113 : decode cL_law 1113 = .ok (.invokestatic 304, 3) := by decide +kernel
theorem dL_law_1116 : decode cL_law 1116 = .ok (.ldc 52, 2) := by decide +kernel
theorem dL_law_1118 : decode cL_law 1118 = .ok (.if_icmp .ne 17, 3) := by decide +kernel
theorem dL_law_1121 : decode cL_law 1121 = .ok (.aload_n 3, 1) := by decide +kernel
theorem dL_law_1122 : decode cL_law 1122 = .ok (.iconst 5, 1) := by decide +kernel
theorem dL_law_1123 : decode cL_law 1123 = .ok (.invokestatic 306, 3) := by decide +kernel
theorem dL_law_1126 : decode cL_law 1126 = .ok (.ldc 52, 2) := by decide +kernel
theorem dL_law_1128 : decode cL_law 1128 = .ok (.if_icmp .ne 7, 3) := by decide +kernel
theorem dL_law_1131 : decode cL_law 1131 = .ok (.iconst 1, 1) := by decide +kernel
theorem dL_law_1132 : decode cL_law 1132 = .ok (.goto 4, 3) := by decide +kernel
theorem dL_law_1135 : decode cL_law 1135 = .ok (.iconst 0, 1) := by decide +kernel
theorem dL_law_1136 : decode cL_law 1136 = .ok (.istore_n 1, 1) := by decide +kernel
theorem dL_law_1137 : decode cL_law 1137 = .ok (.iinc 2 1, 3) := by decide +kernel
theorem dL_law_1140 : decode cL_law 1140 = .ok (.goto (-1136), 3) := by decide +kernel
theorem dL_law_1143 : decode cL_law 1143 = .ok (.iload_n 1, 1) := by decide +kernel
theorem dL_law_1144 : decode cL_law 1144 = .ok (.ireturn, 1) := by decide +kernel
