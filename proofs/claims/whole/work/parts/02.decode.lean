theorem dX0_init_0 : decode cX0_init 0 = .ok (.aload_n 0, 1) := by decide +kernel
theorem dX0_init_1 : decode cX0_init 1 = .ok (.invokespecial 3, 3) := by decide +kernel
theorem dX0_init_4 : decode cX0_init 4 = .ok (.aload_n 0, 1) := by decide +kernel
theorem dX0_init_5 : decode cX0_init 5 = .ok (.aload_n 1, 1) := by decide +kernel
theorem dX0_init_6 : decode cX0_init 6 = .ok (.putfield 9, 3) := by decide +kernel
theorem dX0_init_9 : decode cX0_init 9 = .ok (.aload_n 0, 1) := by decide +kernel
theorem dX0_init_10 : decode cX0_init 10 = .ok (.iconst 5, 1) := by decide +kernel
theorem dX0_init_11 : decode cX0_init 11 = .ok (.anewarray 15, 3) := by decide +kernel
theorem dX0_init_14 : decode cX0_init 14 = .ok (.putfield 17, 3) := by decide +kernel
theorem dX0_init_17 : decode cX0_init 17 = .ok (.iconst 0, 1) := by decide +kernel
theorem dX0_init_18 : decode cX0_init 18 = .ok (.istore_n 2, 1) := by decide +kernel
theorem dX0_init_19 : decode cX0_init 19 = .ok (.iload_n 2, 1) := by decide +kernel
theorem dX0_init_20 : decode cX0_init 20 = .ok (.iconst 5, 1) := by decide +kernel
theorem dX0_init_21 : decode cX0_init 21 = .ok (.if_icmp .ge 22, 3) := by decide +kernel
theorem dX0_init_24 : decode cX0_init 24 = .ok (.aload_n 0, 1) := by decide +kernel
theorem dX0_init_25 : decode cX0_init 25 = .ok (.getfield 17, 3) := by decide +kernel
theorem dX0_init_28 : decode cX0_init 28 = .ok (.iload_n 2, 1) := by decide +kernel
theorem dX0_init_29 : decode cX0_init 29 = .ok (.new 15, 3) := by decide +kernel
theorem dX0_init_32 : decode cX0_init 32 = .ok (.dup, 1) := by decide +kernel
theorem dX0_init_33 : decode cX0_init 33 = .ok (.invokespecial 21, 3) := by decide +kernel
theorem dX0_init_36 : decode cX0_init 36 = .ok (.aastore, 1) := by decide +kernel
theorem dX0_init_37 : decode cX0_init 37 = .ok (.iinc 2 1, 3) := by decide +kernel
theorem dX0_init_40 : decode cX0_init 40 = .ok (.goto (-21), 3) := by decide +kernel
theorem dX0_init_43 : decode cX0_init 43 = .ok (.aload_n 0, 1) := by decide +kernel
theorem dX0_init_44 : decode cX0_init 44 = .ok (.new 22, 3) := by decide +kernel
theorem dX0_init_47 : decode cX0_init 47 = .ok (.dup, 1) := by decide +kernel
theorem dX0_init_48 : decode cX0_init 48 = .ok (.bipush 12, 2) := by decide +kernel
theorem dX0_init_50 : decode cX0_init 50 = .ok (.invokespecial 24, 3) := by decide +kernel
theorem dX0_init_53 : decode cX0_init 53 = .ok (.putfield 27, 3) := by decide +kernel
theorem dX0_init_56 : decode cX0_init 56 = .ok (.aload_n 0, 1) := by decide +kernel
theorem dX0_init_57 : decode cX0_init 57 = .ok (.new 22, 3) := by decide +kernel
theorem dX0_init_60 : decode cX0_init 60 = .ok (.dup, 1) := by decide +kernel
theorem dX0_init_61 : decode cX0_init 61 = .ok (.bipush 20, 2) := by decide +kernel
theorem dX0_init_63 : decode cX0_init 63 = .ok (.invokespecial 24, 3) := by decide +kernel
theorem dX0_init_66 : decode cX0_init 66 = .ok (.putfield 31, 3) := by decide +kernel
theorem dX0_init_69 : decode cX0_init 69 = .ok (.aload_n 0, 1) := by decide +kernel
theorem dX0_init_70 : decode cX0_init 70 = .ok (.new 22, 3) := by decide +kernel
theorem dX0_init_73 : decode cX0_init 73 = .ok (.dup, 1) := by decide +kernel
theorem dX0_init_74 : decode cX0_init 74 = .ok (.bipush 20, 2) := by decide +kernel
theorem dX0_init_76 : decode cX0_init 76 = .ok (.invokespecial 24, 3) := by decide +kernel
theorem dX0_init_79 : decode cX0_init 79 = .ok (.putfield 34, 3) := by decide +kernel
theorem dX0_init_82 : decode cX0_init 82 = .ok (.aload_n 0, 1) := by decide +kernel
theorem dX0_init_83 : decode cX0_init 83 = .ok (.new 22, 3) := by decide +kernel
theorem dX0_init_86 : decode cX0_init 86 = .ok (.dup, 1) := by decide +kernel
theorem dX0_init_87 : decode cX0_init 87 = .ok (.bipush 20, 2) := by decide +kernel
theorem dX0_init_89 : decode cX0_init 89 = .ok (.invokespecial 24, 3) := by decide +kernel
theorem dX0_init_92 : decode cX0_init 92 = .ok (.putfield 37, 3) := by decide +kernel
theorem dX0_init_95 : decode cX0_init 95 = .ok (.aload_n 0, 1) := by decide +kernel
theorem dX0_init_96 : decode cX0_init 96 = .ok (.new 40, 3) := by decide +kernel
theorem dX0_init_99 : decode cX0_init 99 = .ok (.dup, 1) := by decide +kernel
theorem dX0_init_100 : decode cX0_init 100 = .ok (.iconst 1, 1) := by decide +kernel
theorem dX0_init_101 : decode cX0_init 101 = .ok (.newarray .int, 2) := by decide +kernel
theorem dX0_init_103 : decode cX0_init 103 = .ok (.dup, 1) := by decide +kernel
theorem dX0_init_104 : decode cX0_init 104 = .ok (.iconst 0, 1) := by decide +kernel
theorem dX0_init_105 : decode cX0_init 105 = .ok (.iconst (-1), 1) := by decide +kernel
theorem dX0_init_106 : decode cX0_init 106 = .ok (.iastore, 1) := by decide +kernel
theorem dX0_init_107 : decode cX0_init 107 = .ok (.invokespecial 42, 3) := by decide +kernel
theorem dX0_init_110 : decode cX0_init 110 = .ok (.putfield 45, 3) := by decide +kernel
theorem dX0_init_113 : decode cX0_init 113 = .ok (.aload_n 0, 1) := by decide +kernel
theorem dX0_init_114 : decode cX0_init 114 = .ok (.aload_n 0, 1) := by decide +kernel
theorem dX0_init_115 : decode cX0_init 115 = .ok (.getfield 45, 3) := by decide +kernel
theorem dX0_init_118 : decode cX0_init 118 = .ok (.putfield 49, 3) := by decide +kernel
theorem dX0_init_121 : decode cX0_init 121 = .ok (.aload_n 0, 1) := by decide +kernel
theorem dX0_init_122 : decode cX0_init 122 = .ok (.iconst 2, 1) := by decide +kernel
theorem dX0_init_123 : decode cX0_init 123 = .ok (.putfield 52, 3) := by decide +kernel
theorem dX0_init_126 : decode cX0_init 126 = .ok (.return_, 1) := by decide +kernel
theorem dX0_start_0 : decode cX0_start 0 = .ok (.aload_n 0, 1) := by decide +kernel
theorem dX0_start_1 : decode cX0_start 1 = .ok (.iconst 2, 1) := by decide +kernel
theorem dX0_start_2 : decode cX0_start 2 = .ok (.putfield 52, 3) := by decide +kernel
theorem dX0_start_5 : decode cX0_start 5 = .ok (.aload_n 0, 1) := by decide +kernel
theorem dX0_start_6 : decode cX0_start 6 = .ok (.iconst 0, 1) := by decide +kernel
theorem dX0_start_7 : decode cX0_start 7 = .ok (.putfield 56, 3) := by decide +kernel
theorem dX0_start_10 : decode cX0_start 10 = .ok (.aload_n 0, 1) := by decide +kernel
theorem dX0_start_11 : decode cX0_start 11 = .ok (.getfield 27, 3) := by decide +kernel
theorem dX0_start_14 : decode cX0_start 14 = .ok (.invokevirtual 59, 3) := by decide +kernel
theorem dX0_start_17 : decode cX0_start 17 = .ok (.aload_n 0, 1) := by decide +kernel
theorem dX0_start_18 : decode cX0_start 18 = .ok (.aload_n 0, 1) := by decide +kernel
theorem dX0_start_19 : decode cX0_start 19 = .ok (.getfield 45, 3) := by decide +kernel
theorem dX0_start_22 : decode cX0_start 22 = .ok (.putfield 49, 3) := by decide +kernel
theorem dX0_start_25 : decode cX0_start 25 = .ok (.aload_n 0, 1) := by decide +kernel
theorem dX0_start_26 : decode cX0_start 26 = .ok (.iconst 0, 1) := by decide +kernel
theorem dX0_start_27 : decode cX0_start 27 = .ok (.putfield 62, 3) := by decide +kernel
theorem dX0_start_30 : decode cX0_start 30 = .ok (.aload_n 0, 1) := by decide +kernel
theorem dX0_start_31 : decode cX0_start 31 = .ok (.iconst 0, 1) := by decide +kernel
theorem dX0_start_32 : decode cX0_start 32 = .ok (.putfield 65, 3) := by decide +kernel
theorem dX0_start_35 : decode cX0_start 35 = .ok (.aload_n 0, 1) := by decide +kernel
theorem dX0_start_36 : decode cX0_start 36 = .ok (.iconst 0, 1) := by decide +kernel
theorem dX0_start_37 : decode cX0_start 37 = .ok (.putfield 68, 3) := by decide +kernel
theorem dX0_start_40 : decode cX0_start 40 = .ok (.aload_n 0, 1) := by decide +kernel
theorem dX0_start_41 : decode cX0_start 41 = .ok (.invokevirtual 71, 3) := by decide +kernel
theorem dX0_start_44 : decode cX0_start 44 = .ok (.return_, 1) := by decide +kernel
theorem dX0_copyFrom_0 : decode cX0_copyFrom 0 = .ok (.aload_n 0, 1) := by decide +kernel
theorem dX0_copyFrom_1 : decode cX0_copyFrom 1 = .ok (.aload_n 1, 1) := by decide +kernel
theorem dX0_copyFrom_2 : decode cX0_copyFrom 2 = .ok (.getfield 52, 3) := by decide +kernel
theorem dX0_copyFrom_5 : decode cX0_copyFrom 5 = .ok (.putfield 52, 3) := by decide +kernel
theorem dX0_copyFrom_8 : decode cX0_copyFrom 8 = .ok (.aload_n 0, 1) := by decide +kernel
theorem dX0_copyFrom_9 : decode cX0_copyFrom 9 = .ok (.aload_n 1, 1) := by decide +kernel
theorem dX0_copyFrom_10 : decode cX0_copyFrom 10 = .ok (.getfield 56, 3) := by decide +kernel
theorem dX0_copyFrom_13 : decode cX0_copyFrom 13 = .ok (.putfield 56, 3) := by decide +kernel
theorem dX0_copyFrom_16 : decode cX0_copyFrom 16 = .ok (.iconst 0, 1) := by decide +kernel
theorem dX0_copyFrom_17 : decode cX0_copyFrom 17 = .ok (.istore_n 2, 1) := by decide +kernel
theorem dX0_copyFrom_18 : decode cX0_copyFrom 18 = .ok (.iload_n 2, 1) := by decide +kernel
theorem dX0_copyFrom_19 : decode cX0_copyFrom 19 = .ok (.iconst 5, 1) := by decide +kernel
theorem dX0_copyFrom_20 : decode cX0_copyFrom 20 = .ok (.if_icmp .ge 24, 3) := by decide +kernel
theorem dX0_copyFrom_23 : decode cX0_copyFrom 23 = .ok (.aload_n 0, 1) := by decide +kernel
theorem dX0_copyFrom_24 : decode cX0_copyFrom 24 = .ok (.getfield 17, 3) := by decide +kernel
theorem dX0_copyFrom_27 : decode cX0_copyFrom 27 = .ok (.iload_n 2, 1) := by decide +kernel
theorem dX0_copyFrom_28 : decode cX0_copyFrom 28 = .ok (.aaload, 1) := by decide +kernel
theorem dX0_copyFrom_29 : decode cX0_copyFrom 29 = .ok (.aload_n 1, 1) := by decide +kernel
theorem dX0_copyFrom_30 : decode cX0_copyFrom 30 = .ok (.getfield 17, 3) := by decide +kernel
theorem dX0_copyFrom_33 : decode cX0_copyFrom 33 = .ok (.iload_n 2, 1) := by decide +kernel
theorem dX0_copyFrom_34 : decode cX0_copyFrom 34 = .ok (.aaload, 1) := by decide +kernel
theorem dX0_copyFrom_35 : decode cX0_copyFrom 35 = .ok (.invokevirtual 74, 3) := by decide +kernel
theorem dX0_copyFrom_38 : decode cX0_copyFrom 38 = .ok (.iinc 2 1, 3) := by decide +kernel
theorem dX0_copyFrom_41 : decode cX0_copyFrom 41 = .ok (.goto (-23), 3) := by decide +kernel
theorem dX0_copyFrom_44 : decode cX0_copyFrom 44 = .ok (.aload_n 0, 1) := by decide +kernel
theorem dX0_copyFrom_45 : decode cX0_copyFrom 45 = .ok (.getfield 27, 3) := by decide +kernel
theorem dX0_copyFrom_48 : decode cX0_copyFrom 48 = .ok (.aload_n 1, 1) := by decide +kernel
theorem dX0_copyFrom_49 : decode cX0_copyFrom 49 = .ok (.getfield 27, 3) := by decide +kernel
theorem dX0_copyFrom_52 : decode cX0_copyFrom 52 = .ok (.invokevirtual 78, 3) := by decide +kernel
theorem dX0_copyFrom_55 : decode cX0_copyFrom 55 = .ok (.aload_n 0, 1) := by decide +kernel
theorem dX0_copyFrom_56 : decode cX0_copyFrom 56 = .ok (.getfield 31, 3) := by decide +kernel
theorem dX0_copyFrom_59 : decode cX0_copyFrom 59 = .ok (.aload_n 1, 1) := by decide +kernel
theorem dX0_copyFrom_60 : decode cX0_copyFrom 60 = .ok (.getfield 31, 3) := by decide +kernel
theorem dX0_copyFrom_63 : decode cX0_copyFrom 63 = .ok (.invokevirtual 78, 3) := by decide +kernel
theorem dX0_copyFrom_66 : decode cX0_copyFrom 66 = .ok (.aload_n 0, 1) := by decide +kernel
theorem dX0_copyFrom_67 : decode cX0_copyFrom 67 = .ok (.getfield 34, 3) := by decide +kernel
theorem dX0_copyFrom_70 : decode cX0_copyFrom 70 = .ok (.aload_n 1, 1) := by decide +kernel
theorem dX0_copyFrom_71 : decode cX0_copyFrom 71 = .ok (.getfield 34, 3) := by decide +kernel
theorem dX0_copyFrom_74 : decode cX0_copyFrom 74 = .ok (.invokevirtual 78, 3) := by decide +kernel
theorem dX0_copyFrom_77 : decode cX0_copyFrom 77 = .ok (.aload_n 0, 1) := by decide +kernel
theorem dX0_copyFrom_78 : decode cX0_copyFrom 78 = .ok (.getfield 37, 3) := by decide +kernel
theorem dX0_copyFrom_81 : decode cX0_copyFrom 81 = .ok (.aload_n 1, 1) := by decide +kernel
theorem dX0_copyFrom_82 : decode cX0_copyFrom 82 = .ok (.getfield 37, 3) := by decide +kernel
theorem dX0_copyFrom_85 : decode cX0_copyFrom 85 = .ok (.invokevirtual 78, 3) := by decide +kernel
theorem dX0_copyFrom_88 : decode cX0_copyFrom 88 = .ok (.aload_n 0, 1) := by decide +kernel
theorem dX0_copyFrom_89 : decode cX0_copyFrom 89 = .ok (.aload_n 1, 1) := by decide +kernel
theorem dX0_copyFrom_90 : decode cX0_copyFrom 90 = .ok (.getfield 49, 3) := by decide +kernel
theorem dX0_copyFrom_93 : decode cX0_copyFrom 93 = .ok (.putfield 49, 3) := by decide +kernel
theorem dX0_copyFrom_96 : decode cX0_copyFrom 96 = .ok (.aload_n 0, 1) := by decide +kernel
theorem dX0_copyFrom_97 : decode cX0_copyFrom 97 = .ok (.aload_n 1, 1) := by decide +kernel
theorem dX0_copyFrom_98 : decode cX0_copyFrom 98 = .ok (.getfield 62, 3) := by decide +kernel
theorem dX0_copyFrom_101 : decode cX0_copyFrom 101 = .ok (.putfield 62, 3) := by decide +kernel
theorem dX0_copyFrom_104 : decode cX0_copyFrom 104 = .ok (.aload_n 0, 1) := by decide +kernel
theorem dX0_copyFrom_105 : decode cX0_copyFrom 105 = .ok (.aload_n 1, 1) := by decide +kernel
theorem dX0_copyFrom_106 : decode cX0_copyFrom 106 = .ok (.getfield 65, 3) := by decide +kernel
theorem dX0_copyFrom_109 : decode cX0_copyFrom 109 = .ok (.putfield 65, 3) := by decide +kernel
theorem dX0_copyFrom_112 : decode cX0_copyFrom 112 = .ok (.aload_n 0, 1) := by decide +kernel
theorem dX0_copyFrom_113 : decode cX0_copyFrom 113 = .ok (.aload_n 1, 1) := by decide +kernel
theorem dX0_copyFrom_114 : decode cX0_copyFrom 114 = .ok (.getfield 81, 3) := by decide +kernel
theorem dX0_copyFrom_117 : decode cX0_copyFrom 117 = .ok (.putfield 81, 3) := by decide +kernel
theorem dX0_copyFrom_120 : decode cX0_copyFrom 120 = .ok (.aload_n 0, 1) := by decide +kernel
theorem dX0_copyFrom_121 : decode cX0_copyFrom 121 = .ok (.aload_n 1, 1) := by decide +kernel
theorem dX0_copyFrom_122 : decode cX0_copyFrom 122 = .ok (.getfield 84, 3) := by decide +kernel
theorem dX0_copyFrom_125 : decode cX0_copyFrom 125 = .ok (.putfield 84, 3) := by decide +kernel
theorem dX0_copyFrom_128 : decode cX0_copyFrom 128 = .ok (.aload_n 0, 1) := by decide +kernel
theorem dX0_copyFrom_129 : decode cX0_copyFrom 129 = .ok (.aload_n 1, 1) := by decide +kernel
theorem dX0_copyFrom_130 : decode cX0_copyFrom 130 = .ok (.getfield 68, 3) := by decide +kernel
theorem dX0_copyFrom_133 : decode cX0_copyFrom 133 = .ok (.putfield 68, 3) := by decide +kernel
theorem dX0_copyFrom_136 : decode cX0_copyFrom 136 = .ok (.return_, 1) := by decide +kernel
theorem dX0_setRule_0 : decode cX0_setRule 0 = .ok (.aload_n 0, 1) := by decide +kernel
theorem dX0_setRule_1 : decode cX0_setRule 1 = .ok (.aload_n 1, 1) := by decide +kernel
theorem dX0_setRule_2 : decode cX0_setRule 2 = .ok (.putfield 49, 3) := by decide +kernel
theorem dX0_setRule_5 : decode cX0_setRule 5 = .ok (.return_, 1) := by decide +kernel
theorem dX0_bidder_0 : decode cX0_bidder 0 = .ok (.iload_n 1, 1) := by decide +kernel
theorem dX0_bidder_1 : decode cX0_bidder 1 = .ok (.ifCond .lt 25, 3) := by decide +kernel
theorem dX0_bidder_4 : decode cX0_bidder 4 = .ok (.iload_n 1, 1) := by decide +kernel
theorem dX0_bidder_5 : decode cX0_bidder 5 = .ok (.aload_n 0, 1) := by decide +kernel
theorem dX0_bidder_6 : decode cX0_bidder 6 = .ok (.getfield 56, 3) := by decide +kernel
theorem dX0_bidder_9 : decode cX0_bidder 9 = .ok (.if_icmp .ge 17, 3) := by decide +kernel
theorem dX0_bidder_12 : decode cX0_bidder 12 = .ok (.iload_n 1, 1) := by decide +kernel
theorem dX0_bidder_13 : decode cX0_bidder 13 = .ok (.iconst 5, 1) := by decide +kernel
theorem dX0_bidder_14 : decode cX0_bidder 14 = .ok (.if_icmp .ge 12, 3) := by decide +kernel
theorem dX0_bidder_17 : decode cX0_bidder 17 = .ok (.aload_n 0, 1) := by decide +kernel
theorem dX0_bidder_18 : decode cX0_bidder 18 = .ok (.getfield 17, 3) := by decide +kernel
theorem dX0_bidder_21 : decode cX0_bidder 21 = .ok (.iload_n 1, 1) := by decide +kernel
theorem dX0_bidder_22 : decode cX0_bidder 22 = .ok (.aaload, 1) := by decide +kernel
theorem dX0_bidder_23 : decode cX0_bidder 23 = .ok (.goto 4, 3) := by decide +kernel
theorem dX0_bidder_26 : decode cX0_bidder 26 = .ok (.aconst_null, 1) := by decide +kernel
theorem dX0_bidder_27 : decode cX0_bidder 27 = .ok (.areturn, 1) := by decide +kernel
theorem dX0_addPlayer_0 : decode cX0_addPlayer 0 = .ok (.aload_n 0, 1) := by decide +kernel
theorem dX0_addPlayer_1 : decode cX0_addPlayer 1 = .ok (.getfield 56, 3) := by decide +kernel
theorem dX0_addPlayer_4 : decode cX0_addPlayer 4 = .ok (.ifCond .lt 34, 3) := by decide +kernel
theorem dX0_addPlayer_7 : decode cX0_addPlayer 7 = .ok (.aload_n 0, 1) := by decide +kernel
theorem dX0_addPlayer_8 : decode cX0_addPlayer 8 = .ok (.getfield 56, 3) := by decide +kernel
theorem dX0_addPlayer_11 : decode cX0_addPlayer 11 = .ok (.iconst 5, 1) := by decide +kernel
theorem dX0_addPlayer_12 : decode cX0_addPlayer 12 = .ok (.if_icmp .ge 26, 3) := by decide +kernel
theorem dX0_addPlayer_15 : decode cX0_addPlayer 15 = .ok (.aload_n 0, 1) := by decide +kernel
theorem dX0_addPlayer_16 : decode cX0_addPlayer 16 = .ok (.getfield 17, 3) := by decide +kernel
theorem dX0_addPlayer_19 : decode cX0_addPlayer 19 = .ok (.aload_n 0, 1) := by decide +kernel
theorem dX0_addPlayer_20 : decode cX0_addPlayer 20 = .ok (.getfield 56, 3) := by decide +kernel
theorem dX0_addPlayer_23 : decode cX0_addPlayer 23 = .ok (.aaload, 1) := by decide +kernel
theorem dX0_addPlayer_24 : decode cX0_addPlayer 24 = .ok (.iload_n 1, 1) := by decide +kernel
theorem dX0_addPlayer_25 : decode cX0_addPlayer 25 = .ok (.invokevirtual 87, 3) := by decide +kernel
theorem dX0_addPlayer_28 : decode cX0_addPlayer 28 = .ok (.aload_n 0, 1) := by decide +kernel
theorem dX0_addPlayer_29 : decode cX0_addPlayer 29 = .ok (.dup, 1) := by decide +kernel
theorem dX0_addPlayer_30 : decode cX0_addPlayer 30 = .ok (.getfield 56, 3) := by decide +kernel
theorem dX0_addPlayer_33 : decode cX0_addPlayer 33 = .ok (.iconst 1, 1) := by decide +kernel
theorem dX0_addPlayer_34 : decode cX0_addPlayer 34 = .ok (.iadd, 1) := by decide +kernel
theorem dX0_addPlayer_35 : decode cX0_addPlayer 35 = .ok (.putfield 56, 3) := by decide +kernel
theorem dX0_addPlayer_38 : decode cX0_addPlayer 38 = .ok (.return_, 1) := by decide +kernel
theorem dX0_isOver_0 : decode cX0_isOver 0 = .ok (.aload_n 0, 1) := by decide +kernel
theorem dX0_isOver_1 : decode cX0_isOver 1 = .ok (.getfield 56, 3) := by decide +kernel
theorem dX0_isOver_4 : decode cX0_isOver 4 = .ok (.ifCond .eq 17, 3) := by decide +kernel
theorem dX0_isOver_7 : decode cX0_isOver 7 = .ok (.aload_n 0, 1) := by decide +kernel
theorem dX0_isOver_8 : decode cX0_isOver 8 = .ok (.getfield 27, 3) := by decide +kernel
theorem dX0_isOver_11 : decode cX0_isOver 11 = .ok (.aload_n 0, 1) := by decide +kernel
theorem dX0_isOver_12 : decode cX0_isOver 12 = .ok (.getfield 62, 3) := by decide +kernel
theorem dX0_isOver_15 : decode cX0_isOver 15 = .ok (.invokevirtual 90, 3) := by decide +kernel
theorem dX0_isOver_18 : decode cX0_isOver 18 = .ok (.ifCond .ne 7, 3) := by decide +kernel
theorem dX0_isOver_21 : decode cX0_isOver 21 = .ok (.iconst 1, 1) := by decide +kernel
theorem dX0_isOver_22 : decode cX0_isOver 22 = .ok (.goto 4, 3) := by decide +kernel
theorem dX0_isOver_25 : decode cX0_isOver 25 = .ok (.iconst 0, 1) := by decide +kernel
theorem dX0_isOver_26 : decode cX0_isOver 26 = .ok (.ireturn, 1) := by decide +kernel
theorem dX0_productOfBids_0 : decode cX0_productOfBids 0 = .ok (.iconst 0, 1) := by decide +kernel
theorem dX0_productOfBids_1 : decode cX0_productOfBids 1 = .ok (.istore_n 3, 1) := by decide +kernel
theorem dX0_productOfBids_2 : decode cX0_productOfBids 2 = .ok (.iload_n 1, 1) := by decide +kernel
theorem dX0_productOfBids_3 : decode cX0_productOfBids 3 = .ok (.istore 4, 2) := by decide +kernel
theorem dX0_productOfBids_5 : decode cX0_productOfBids 5 = .ok (.iload 4, 2) := by decide +kernel
theorem dX0_productOfBids_7 : decode cX0_productOfBids 7 = .ok (.iload_n 2, 1) := by decide +kernel
theorem dX0_productOfBids_8 : decode cX0_productOfBids 8 = .ok (.if_icmp .ge 27, 3) := by decide +kernel
theorem dX0_productOfBids_11 : decode cX0_productOfBids 11 = .ok (.aload_n 0, 1) := by decide +kernel
theorem dX0_productOfBids_12 : decode cX0_productOfBids 12 = .ok (.getfield 9, 3) := by decide +kernel
theorem dX0_productOfBids_15 : decode cX0_productOfBids 15 = .ok (.iload_n 3, 1) := by decide +kernel
theorem dX0_productOfBids_16 : decode cX0_productOfBids 16 = .ok (.aload_n 0, 1) := by decide +kernel
theorem dX0_productOfBids_17 : decode cX0_productOfBids 17 = .ok (.getfield 34, 3) := by decide +kernel
theorem dX0_productOfBids_20 : decode cX0_productOfBids 20 = .ok (.iload 4, 2) := by decide +kernel
theorem dX0_productOfBids_22 : decode cX0_productOfBids 22 = .ok (.invokevirtual 94, 3) := by decide +kernel
theorem dX0_productOfBids_25 : decode cX0_productOfBids 25 = .ok (.invokevirtual 98, 3) := by decide +kernel
theorem dX0_productOfBids_28 : decode cX0_productOfBids 28 = .ok (.istore_n 3, 1) := by decide +kernel
theorem dX0_productOfBids_29 : decode cX0_productOfBids 29 = .ok (.iinc 4 1, 3) := by decide +kernel
theorem dX0_productOfBids_32 : decode cX0_productOfBids 32 = .ok (.goto (-27), 3) := by decide +kernel
theorem dX0_productOfBids_35 : decode cX0_productOfBids 35 = .ok (.iload_n 3, 1) := by decide +kernel
theorem dX0_productOfBids_36 : decode cX0_productOfBids 36 = .ok (.ireturn, 1) := by decide +kernel
theorem dX0_winningElement_0 : decode cX0_winningElement 0 = .ok (.aload_n 0, 1) := by decide +kernel
theorem dX0_winningElement_1 : decode cX0_winningElement 1 = .ok (.getfield 9, 3) := by decide +kernel
theorem dX0_winningElement_4 : decode cX0_winningElement 4 = .ok (.aload_n 0, 1) := by decide +kernel
theorem dX0_winningElement_5 : decode cX0_winningElement 5 = .ok (.iconst 0, 1) := by decide +kernel
theorem dX0_winningElement_6 : decode cX0_winningElement 6 = .ok (.aload_n 0, 1) := by decide +kernel
theorem dX0_winningElement_7 : decode cX0_winningElement 7 = .ok (.getfield 34, 3) := by decide +kernel
theorem dX0_winningElement_10 : decode cX0_winningElement 10 = .ok (.invokevirtual 104, 3) := by decide +kernel
theorem dX0_winningElement_13 : decode cX0_winningElement 13 = .ok (.invokevirtual 108, 3) := by decide +kernel
theorem dX0_winningElement_16 : decode cX0_winningElement 16 = .ok (.invokevirtual 111, 3) := by decide +kernel
theorem dX0_winningElement_19 : decode cX0_winningElement 19 = .ok (.ireturn, 1) := by decide +kernel
theorem dX0_priceOf_0 : decode cX0_priceOf 0 = .ok (.aload_n 0, 1) := by decide +kernel
theorem dX0_priceOf_1 : decode cX0_priceOf 1 = .ok (.getfield 9, 3) := by decide +kernel
theorem dX0_priceOf_4 : decode cX0_priceOf 4 = .ok (.aload_n 1, 1) := by decide +kernel
theorem dX0_priceOf_5 : decode cX0_priceOf 5 = .ok (.getfield 114, 3) := by decide +kernel
theorem dX0_priceOf_8 : decode cX0_priceOf 8 = .ok (.iload_n 2, 1) := by decide +kernel
theorem dX0_priceOf_9 : decode cX0_priceOf 9 = .ok (.invokevirtual 94, 3) := by decide +kernel
theorem dX0_priceOf_12 : decode cX0_priceOf 12 = .ok (.invokevirtual 117, 3) := by decide +kernel
theorem dX0_priceOf_15 : decode cX0_priceOf 15 = .ok (.istore_n 3, 1) := by decide +kernel
theorem dX0_priceOf_16 : decode cX0_priceOf 16 = .ok (.aload_n 0, 1) := by decide +kernel
theorem dX0_priceOf_17 : decode cX0_priceOf 17 = .ok (.getfield 49, 3) := by decide +kernel
theorem dX0_priceOf_20 : decode cX0_priceOf 20 = .ok (.aload_n 1, 1) := by decide +kernel
theorem dX0_priceOf_21 : decode cX0_priceOf 21 = .ok (.getfield 120, 3) := by decide +kernel
theorem dX0_priceOf_24 : decode cX0_priceOf 24 = .ok (.iload_n 2, 1) := by decide +kernel
theorem dX0_priceOf_25 : decode cX0_priceOf 25 = .ok (.invokevirtual 94, 3) := by decide +kernel
theorem dX0_priceOf_28 : decode cX0_priceOf 28 = .ok (.iload_n 3, 1) := by decide +kernel
theorem dX0_priceOf_29 : decode cX0_priceOf 29 = .ok (.aload_n 0, 1) := by decide +kernel
theorem dX0_priceOf_30 : decode cX0_priceOf 30 = .ok (.getfield 34, 3) := by decide +kernel
theorem dX0_priceOf_33 : decode cX0_priceOf 33 = .ok (.invokevirtual 104, 3) := by decide +kernel
theorem dX0_priceOf_36 : decode cX0_priceOf 36 = .ok (.aload_n 0, 1) := by decide +kernel
theorem dX0_priceOf_37 : decode cX0_priceOf 37 = .ok (.getfield 81, 3) := by decide +kernel
theorem dX0_priceOf_40 : decode cX0_priceOf 40 = .ok (.invokevirtual 123, 3) := by decide +kernel
theorem dX0_priceOf_43 : decode cX0_priceOf 43 = .ok (.ireturn, 1) := by decide +kernel
theorem dX0_playCard_0 : decode cX0_playCard 0 = .ok (.aload_n 0, 1) := by decide +kernel
theorem dX0_playCard_1 : decode cX0_playCard 1 = .ok (.aload_n 0, 1) := by decide +kernel
theorem dX0_playCard_2 : decode cX0_playCard 2 = .ok (.getfield 65, 3) := by decide +kernel
theorem dX0_playCard_5 : decode cX0_playCard 5 = .ok (.invokevirtual 127, 3) := by decide +kernel
theorem dX0_playCard_8 : decode cX0_playCard 8 = .ok (.astore_n 2, 1) := by decide +kernel
theorem dX0_playCard_9 : decode cX0_playCard 9 = .ok (.aload_n 2, 1) := by decide +kernel
theorem dX0_playCard_10 : decode cX0_playCard 10 = .ok (.ifnonnull 5, 3) := by decide +kernel
theorem dX0_playCard_13 : decode cX0_playCard 13 = .ok (.iconst (-1), 1) := by decide +kernel
theorem dX0_playCard_14 : decode cX0_playCard 14 = .ok (.ireturn, 1) := by decide +kernel
theorem dX0_playCard_15 : decode cX0_playCard 15 = .ok (.aload_n 0, 1) := by decide +kernel
theorem dX0_playCard_16 : decode cX0_playCard 16 = .ok (.aload_n 2, 1) := by decide +kernel
theorem dX0_playCard_17 : decode cX0_playCard 17 = .ok (.iload_n 1, 1) := by decide +kernel
theorem dX0_playCard_18 : decode cX0_playCard 18 = .ok (.invokevirtual 131, 3) := by decide +kernel
theorem dX0_playCard_21 : decode cX0_playCard 21 = .ok (.istore_n 3, 1) := by decide +kernel
theorem dX0_playCard_22 : decode cX0_playCard 22 = .ok (.aload_n 0, 1) := by decide +kernel
theorem dX0_playCard_23 : decode cX0_playCard 23 = .ok (.getfield 34, 3) := by decide +kernel
theorem dX0_playCard_26 : decode cX0_playCard 26 = .ok (.invokevirtual 135, 3) := by decide +kernel
theorem dX0_playCard_29 : decode cX0_playCard 29 = .ok (.ifCond .ne 11, 3) := by decide +kernel
theorem dX0_playCard_32 : decode cX0_playCard 32 = .ok (.aload_n 2, 1) := by decide +kernel
theorem dX0_playCard_33 : decode cX0_playCard 33 = .ok (.getfield 139, 3) := by decide +kernel
theorem dX0_playCard_36 : decode cX0_playCard 36 = .ok (.iload_n 3, 1) := by decide +kernel
theorem dX0_playCard_37 : decode cX0_playCard 37 = .ok (.if_icmp .ge 5, 3) := by decide +kernel
theorem dX0_playCard_40 : decode cX0_playCard 40 = .ok (.iconst (-1), 1) := by decide +kernel
theorem dX0_playCard_41 : decode cX0_playCard 41 = .ok (.ireturn, 1) := by decide +kernel
theorem dX0_playCard_42 : decode cX0_playCard 42 = .ok (.aload_n 2, 1) := by decide +kernel
theorem dX0_playCard_43 : decode cX0_playCard 43 = .ok (.dup, 1) := by decide +kernel
theorem dX0_playCard_44 : decode cX0_playCard 44 = .ok (.getfield 139, 3) := by decide +kernel
theorem dX0_playCard_47 : decode cX0_playCard 47 = .ok (.iload_n 3, 1) := by decide +kernel
theorem dX0_playCard_48 : decode cX0_playCard 48 = .ok (.isub, 1) := by decide +kernel
theorem dX0_playCard_49 : decode cX0_playCard 49 = .ok (.putfield 139, 3) := by decide +kernel
theorem dX0_playCard_52 : decode cX0_playCard 52 = .ok (.aload_n 0, 1) := by decide +kernel
theorem dX0_playCard_53 : decode cX0_playCard 53 = .ok (.dup, 1) := by decide +kernel
theorem dX0_playCard_54 : decode cX0_playCard 54 = .ok (.getfield 81, 3) := by decide +kernel
theorem dX0_playCard_57 : decode cX0_playCard 57 = .ok (.iload_n 3, 1) := by decide +kernel
theorem dX0_playCard_58 : decode cX0_playCard 58 = .ok (.iadd, 1) := by decide +kernel
theorem dX0_playCard_59 : decode cX0_playCard 59 = .ok (.putfield 81, 3) := by decide +kernel
theorem dX0_playCard_62 : decode cX0_playCard 62 = .ok (.aload_n 0, 1) := by decide +kernel
theorem dX0_playCard_63 : decode cX0_playCard 63 = .ok (.getfield 31, 3) := by decide +kernel
theorem dX0_playCard_66 : decode cX0_playCard 66 = .ok (.aload_n 0, 1) := by decide +kernel
theorem dX0_playCard_67 : decode cX0_playCard 67 = .ok (.getfield 65, 3) := by decide +kernel
theorem dX0_playCard_70 : decode cX0_playCard 70 = .ok (.invokevirtual 142, 3) := by decide +kernel
theorem dX0_playCard_73 : decode cX0_playCard 73 = .ok (.aload_n 0, 1) := by decide +kernel
theorem dX0_playCard_74 : decode cX0_playCard 74 = .ok (.getfield 34, 3) := by decide +kernel
theorem dX0_playCard_77 : decode cX0_playCard 77 = .ok (.aload_n 2, 1) := by decide +kernel
theorem dX0_playCard_78 : decode cX0_playCard 78 = .ok (.getfield 114, 3) := by decide +kernel
theorem dX0_playCard_81 : decode cX0_playCard 81 = .ok (.iload_n 1, 1) := by decide +kernel
theorem dX0_playCard_82 : decode cX0_playCard 82 = .ok (.invokevirtual 94, 3) := by decide +kernel
theorem dX0_playCard_85 : decode cX0_playCard 85 = .ok (.invokevirtual 142, 3) := by decide +kernel
theorem dX0_playCard_88 : decode cX0_playCard 88 = .ok (.aload_n 0, 1) := by decide +kernel
theorem dX0_playCard_89 : decode cX0_playCard 89 = .ok (.getfield 37, 3) := by decide +kernel
theorem dX0_playCard_92 : decode cX0_playCard 92 = .ok (.iload_n 3, 1) := by decide +kernel
theorem dX0_playCard_93 : decode cX0_playCard 93 = .ok (.invokevirtual 142, 3) := by decide +kernel
theorem dX0_playCard_96 : decode cX0_playCard 96 = .ok (.aload_n 2, 1) := by decide +kernel
theorem dX0_playCard_97 : decode cX0_playCard 97 = .ok (.iload_n 1, 1) := by decide +kernel
theorem dX0_playCard_98 : decode cX0_playCard 98 = .ok (.invokevirtual 145, 3) := by decide +kernel
theorem dX0_playCard_101 : decode cX0_playCard 101 = .ok (.aload_n 0, 1) := by decide +kernel
theorem dX0_playCard_102 : decode cX0_playCard 102 = .ok (.aload_n 2, 1) := by decide +kernel
theorem dX0_playCard_103 : decode cX0_playCard 103 = .ok (.invokevirtual 148, 3) := by decide +kernel
theorem dX0_playCard_106 : decode cX0_playCard 106 = .ok (.ireturn, 1) := by decide +kernel
theorem dX0_cancelBid_0 : decode cX0_cancelBid 0 = .ok (.aload_n 0, 1) := by decide +kernel
theorem dX0_cancelBid_1 : decode cX0_cancelBid 1 = .ok (.aload_n 0, 1) := by decide +kernel
theorem dX0_cancelBid_2 : decode cX0_cancelBid 2 = .ok (.getfield 65, 3) := by decide +kernel
theorem dX0_cancelBid_5 : decode cX0_cancelBid 5 = .ok (.invokevirtual 127, 3) := by decide +kernel
theorem dX0_cancelBid_8 : decode cX0_cancelBid 8 = .ok (.astore_n 3, 1) := by decide +kernel
theorem dX0_cancelBid_9 : decode cX0_cancelBid 9 = .ok (.aload_n 0, 1) := by decide +kernel
theorem dX0_cancelBid_10 : decode cX0_cancelBid 10 = .ok (.aload_n 0, 1) := by decide +kernel
theorem dX0_cancelBid_11 : decode cX0_cancelBid 11 = .ok (.getfield 31, 3) := by decide +kernel
theorem dX0_cancelBid_14 : decode cX0_cancelBid 14 = .ok (.iload_n 2, 1) := by decide +kernel
theorem dX0_cancelBid_15 : decode cX0_cancelBid 15 = .ok (.invokevirtual 94, 3) := by decide +kernel
theorem dX0_cancelBid_18 : decode cX0_cancelBid 18 = .ok (.invokevirtual 127, 3) := by decide +kernel
theorem dX0_cancelBid_21 : decode cX0_cancelBid 21 = .ok (.astore 4, 2) := by decide +kernel
theorem dX0_cancelBid_23 : decode cX0_cancelBid 23 = .ok (.aload_n 3, 1) := by decide +kernel
theorem dX0_cancelBid_24 : decode cX0_cancelBid 24 = .ok (.ifnull 8, 3) := by decide +kernel
theorem dX0_cancelBid_27 : decode cX0_cancelBid 27 = .ok (.aload 4, 2) := by decide +kernel
theorem dX0_cancelBid_29 : decode cX0_cancelBid 29 = .ok (.ifnonnull 5, 3) := by decide +kernel
theorem dX0_cancelBid_32 : decode cX0_cancelBid 32 = .ok (.iconst (-1), 1) := by decide +kernel
theorem dX0_cancelBid_33 : decode cX0_cancelBid 33 = .ok (.ireturn, 1) := by decide +kernel
theorem dX0_cancelBid_34 : decode cX0_cancelBid 34 = .ok (.aload_n 0, 1) := by decide +kernel
theorem dX0_cancelBid_35 : decode cX0_cancelBid 35 = .ok (.aload_n 3, 1) := by decide +kernel
theorem dX0_cancelBid_36 : decode cX0_cancelBid 36 = .ok (.iload_n 1, 1) := by decide +kernel
theorem dX0_cancelBid_37 : decode cX0_cancelBid 37 = .ok (.invokevirtual 131, 3) := by decide +kernel
theorem dX0_cancelBid_40 : decode cX0_cancelBid 40 = .ok (.istore 5, 2) := by decide +kernel
theorem dX0_cancelBid_42 : decode cX0_cancelBid 42 = .ok (.aload_n 0, 1) := by decide +kernel
theorem dX0_cancelBid_43 : decode cX0_cancelBid 43 = .ok (.getfield 37, 3) := by decide +kernel
theorem dX0_cancelBid_46 : decode cX0_cancelBid 46 = .ok (.iload_n 2, 1) := by decide +kernel
theorem dX0_cancelBid_47 : decode cX0_cancelBid 47 = .ok (.invokevirtual 94, 3) := by decide +kernel
theorem dX0_cancelBid_50 : decode cX0_cancelBid 50 = .ok (.istore 6, 2) := by decide +kernel
theorem dX0_cancelBid_52 : decode cX0_cancelBid 52 = .ok (.aload_n 0, 1) := by decide +kernel
theorem dX0_cancelBid_53 : decode cX0_cancelBid 53 = .ok (.getfield 9, 3) := by decide +kernel
theorem dX0_cancelBid_56 : decode cX0_cancelBid 56 = .ok (.aload_n 3, 1) := by decide +kernel
theorem dX0_cancelBid_57 : decode cX0_cancelBid 57 = .ok (.getfield 114, 3) := by decide +kernel
theorem dX0_cancelBid_60 : decode cX0_cancelBid 60 = .ok (.iload_n 1, 1) := by decide +kernel
theorem dX0_cancelBid_61 : decode cX0_cancelBid 61 = .ok (.invokevirtual 94, 3) := by decide +kernel
theorem dX0_cancelBid_64 : decode cX0_cancelBid 64 = .ok (.aload_n 0, 1) := by decide +kernel
theorem dX0_cancelBid_65 : decode cX0_cancelBid 65 = .ok (.getfield 34, 3) := by decide +kernel
theorem dX0_cancelBid_68 : decode cX0_cancelBid 68 = .ok (.iload_n 2, 1) := by decide +kernel
theorem dX0_cancelBid_69 : decode cX0_cancelBid 69 = .ok (.invokevirtual 94, 3) := by decide +kernel
theorem dX0_cancelBid_72 : decode cX0_cancelBid 72 = .ok (.invokevirtual 98, 3) := by decide +kernel
theorem dX0_cancelBid_75 : decode cX0_cancelBid 75 = .ok (.ifCond .ne 7, 3) := by decide +kernel
theorem dX0_cancelBid_78 : decode cX0_cancelBid 78 = .ok (.iconst 1, 1) := by decide +kernel
theorem dX0_cancelBid_79 : decode cX0_cancelBid 79 = .ok (.goto 4, 3) := by decide +kernel
theorem dX0_cancelBid_82 : decode cX0_cancelBid 82 = .ok (.iconst 0, 1) := by decide +kernel
theorem dX0_cancelBid_83 : decode cX0_cancelBid 83 = .ok (.istore 7, 2) := by decide +kernel
theorem dX0_cancelBid_85 : decode cX0_cancelBid 85 = .ok (.iload 7, 2) := by decide +kernel
theorem dX0_cancelBid_87 : decode cX0_cancelBid 87 = .ok (.ifCond .eq 19, 3) := by decide +kernel
theorem dX0_cancelBid_90 : decode cX0_cancelBid 90 = .ok (.iload 5, 2) := by decide +kernel
theorem dX0_cancelBid_92 : decode cX0_cancelBid 92 = .ok (.iload 6, 2) := by decide +kernel
theorem dX0_cancelBid_94 : decode cX0_cancelBid 94 = .ok (.if_icmp .lt 12, 3) := by decide +kernel
theorem dX0_cancelBid_97 : decode cX0_cancelBid 97 = .ok (.aload_n 3, 1) := by decide +kernel
theorem dX0_cancelBid_98 : decode cX0_cancelBid 98 = .ok (.getfield 139, 3) := by decide +kernel
theorem dX0_cancelBid_101 : decode cX0_cancelBid 101 = .ok (.iload 5, 2) := by decide +kernel
theorem dX0_cancelBid_103 : decode cX0_cancelBid 103 = .ok (.if_icmp .ge 5, 3) := by decide +kernel
theorem dX0_cancelBid_106 : decode cX0_cancelBid 106 = .ok (.iconst (-1), 1) := by decide +kernel
theorem dX0_cancelBid_107 : decode cX0_cancelBid 107 = .ok (.ireturn, 1) := by decide +kernel
theorem dX0_cancelBid_108 : decode cX0_cancelBid 108 = .ok (.aload_n 3, 1) := by decide +kernel
theorem dX0_cancelBid_109 : decode cX0_cancelBid 109 = .ok (.dup, 1) := by decide +kernel
theorem dX0_cancelBid_110 : decode cX0_cancelBid 110 = .ok (.getfield 139, 3) := by decide +kernel
theorem dX0_cancelBid_113 : decode cX0_cancelBid 113 = .ok (.iload 5, 2) := by decide +kernel
theorem dX0_cancelBid_115 : decode cX0_cancelBid 115 = .ok (.isub, 1) := by decide +kernel
theorem dX0_cancelBid_116 : decode cX0_cancelBid 116 = .ok (.putfield 139, 3) := by decide +kernel
theorem dX0_cancelBid_119 : decode cX0_cancelBid 119 = .ok (.aload_n 0, 1) := by decide +kernel
theorem dX0_cancelBid_120 : decode cX0_cancelBid 120 = .ok (.dup, 1) := by decide +kernel
theorem dX0_cancelBid_121 : decode cX0_cancelBid 121 = .ok (.getfield 81, 3) := by decide +kernel
theorem dX0_cancelBid_124 : decode cX0_cancelBid 124 = .ok (.iload 5, 2) := by decide +kernel
theorem dX0_cancelBid_126 : decode cX0_cancelBid 126 = .ok (.iload 6, 2) := by decide +kernel
theorem dX0_cancelBid_128 : decode cX0_cancelBid 128 = .ok (.isub, 1) := by decide +kernel
theorem dX0_cancelBid_129 : decode cX0_cancelBid 129 = .ok (.iadd, 1) := by decide +kernel
theorem dX0_cancelBid_130 : decode cX0_cancelBid 130 = .ok (.putfield 81, 3) := by decide +kernel
theorem dX0_cancelBid_133 : decode cX0_cancelBid 133 = .ok (.aload 4, 2) := by decide +kernel
theorem dX0_cancelBid_135 : decode cX0_cancelBid 135 = .ok (.iload 6, 2) := by decide +kernel
theorem dX0_cancelBid_137 : decode cX0_cancelBid 137 = .ok (.invokevirtual 152, 3) := by decide +kernel
theorem dX0_cancelBid_140 : decode cX0_cancelBid 140 = .ok (.aload_n 0, 1) := by decide +kernel
theorem dX0_cancelBid_141 : decode cX0_cancelBid 141 = .ok (.getfield 31, 3) := by decide +kernel
theorem dX0_cancelBid_144 : decode cX0_cancelBid 144 = .ok (.iload_n 2, 1) := by decide +kernel
theorem dX0_cancelBid_145 : decode cX0_cancelBid 145 = .ok (.invokevirtual 155, 3) := by decide +kernel
theorem dX0_cancelBid_148 : decode cX0_cancelBid 148 = .ok (.aload_n 0, 1) := by decide +kernel
theorem dX0_cancelBid_149 : decode cX0_cancelBid 149 = .ok (.getfield 34, 3) := by decide +kernel
theorem dX0_cancelBid_152 : decode cX0_cancelBid 152 = .ok (.iload_n 2, 1) := by decide +kernel
theorem dX0_cancelBid_153 : decode cX0_cancelBid 153 = .ok (.invokevirtual 155, 3) := by decide +kernel
theorem dX0_cancelBid_156 : decode cX0_cancelBid 156 = .ok (.aload_n 0, 1) := by decide +kernel
theorem dX0_cancelBid_157 : decode cX0_cancelBid 157 = .ok (.getfield 37, 3) := by decide +kernel
theorem dX0_cancelBid_160 : decode cX0_cancelBid 160 = .ok (.iload_n 2, 1) := by decide +kernel
theorem dX0_cancelBid_161 : decode cX0_cancelBid 161 = .ok (.invokevirtual 155, 3) := by decide +kernel
theorem dX0_cancelBid_164 : decode cX0_cancelBid 164 = .ok (.aload_n 3, 1) := by decide +kernel
theorem dX0_cancelBid_165 : decode cX0_cancelBid 165 = .ok (.iload_n 1, 1) := by decide +kernel
theorem dX0_cancelBid_166 : decode cX0_cancelBid 166 = .ok (.invokevirtual 145, 3) := by decide +kernel
theorem dX0_cancelBid_169 : decode cX0_cancelBid 169 = .ok (.aload_n 0, 1) := by decide +kernel
theorem dX0_cancelBid_170 : decode cX0_cancelBid 170 = .ok (.aload_n 3, 1) := by decide +kernel
theorem dX0_cancelBid_171 : decode cX0_cancelBid 171 = .ok (.invokevirtual 148, 3) := by decide +kernel
theorem dX0_cancelBid_174 : decode cX0_cancelBid 174 = .ok (.ireturn, 1) := by decide +kernel
theorem dX0_passTurn_0 : decode cX0_passTurn 0 = .ok (.aload_n 0, 1) := by decide +kernel
theorem dX0_passTurn_1 : decode cX0_passTurn 1 = .ok (.dup, 1) := by decide +kernel
theorem dX0_passTurn_2 : decode cX0_passTurn 2 = .ok (.getfield 84, 3) := by decide +kernel
theorem dX0_passTurn_5 : decode cX0_passTurn 5 = .ok (.iconst 1, 1) := by decide +kernel
theorem dX0_passTurn_6 : decode cX0_passTurn 6 = .ok (.iadd, 1) := by decide +kernel
theorem dX0_passTurn_7 : decode cX0_passTurn 7 = .ok (.putfield 84, 3) := by decide +kernel
theorem dX0_passTurn_10 : decode cX0_passTurn 10 = .ok (.aload_n 0, 1) := by decide +kernel
theorem dX0_passTurn_11 : decode cX0_passTurn 11 = .ok (.getfield 84, 3) := by decide +kernel
theorem dX0_passTurn_14 : decode cX0_passTurn 14 = .ok (.aload_n 0, 1) := by decide +kernel
theorem dX0_passTurn_15 : decode cX0_passTurn 15 = .ok (.getfield 56, 3) := by decide +kernel
theorem dX0_passTurn_18 : decode cX0_passTurn 18 = .ok (.if_icmp .ne 7, 3) := by decide +kernel
theorem dX0_passTurn_21 : decode cX0_passTurn 21 = .ok (.iconst 1, 1) := by decide +kernel
theorem dX0_passTurn_22 : decode cX0_passTurn 22 = .ok (.goto 4, 3) := by decide +kernel
theorem dX0_passTurn_25 : decode cX0_passTurn 25 = .ok (.iconst 0, 1) := by decide +kernel
theorem dX0_passTurn_26 : decode cX0_passTurn 26 = .ok (.istore_n 1, 1) := by decide +kernel
theorem dX0_passTurn_27 : decode cX0_passTurn 27 = .ok (.iload_n 1, 1) := by decide +kernel
theorem dX0_passTurn_28 : decode cX0_passTurn 28 = .ok (.ifCond .eq 20, 3) := by decide +kernel
theorem dX0_passTurn_31 : decode cX0_passTurn 31 = .ok (.aload_n 0, 1) := by decide +kernel
theorem dX0_passTurn_32 : decode cX0_passTurn 32 = .ok (.dup, 1) := by decide +kernel
theorem dX0_passTurn_33 : decode cX0_passTurn 33 = .ok (.getfield 68, 3) := by decide +kernel
theorem dX0_passTurn_36 : decode cX0_passTurn 36 = .ok (.aload_n 0, 1) := by decide +kernel
theorem dX0_passTurn_37 : decode cX0_passTurn 37 = .ok (.getfield 81, 3) := by decide +kernel
theorem dX0_passTurn_40 : decode cX0_passTurn 40 = .ok (.iadd, 1) := by decide +kernel
theorem dX0_passTurn_41 : decode cX0_passTurn 41 = .ok (.putfield 68, 3) := by decide +kernel
theorem dX0_passTurn_44 : decode cX0_passTurn 44 = .ok (.aload_n 0, 1) := by decide +kernel
theorem dX0_passTurn_45 : decode cX0_passTurn 45 = .ok (.invokevirtual 158, 3) := by decide +kernel
theorem dX0_passTurn_48 : decode cX0_passTurn 48 = .ok (.aload_n 0, 1) := by decide +kernel
theorem dX0_passTurn_49 : decode cX0_passTurn 49 = .ok (.invokevirtual 161, 3) := by decide +kernel
theorem dX0_passTurn_52 : decode cX0_passTurn 52 = .ok (.iload_n 1, 1) := by decide +kernel
theorem dX0_passTurn_53 : decode cX0_passTurn 53 = .ok (.ifCond .eq 7, 3) := by decide +kernel
theorem dX0_passTurn_56 : decode cX0_passTurn 56 = .ok (.iconst 1, 1) := by decide +kernel
theorem dX0_passTurn_57 : decode cX0_passTurn 57 = .ok (.goto 4, 3) := by decide +kernel
theorem dX0_passTurn_60 : decode cX0_passTurn 60 = .ok (.iconst 0, 1) := by decide +kernel
theorem dX0_passTurn_61 : decode cX0_passTurn 61 = .ok (.ireturn, 1) := by decide +kernel
theorem dX0_endMove_0 : decode cX0_endMove 0 = .ok (.aload_n 0, 1) := by decide +kernel
theorem dX0_endMove_1 : decode cX0_endMove 1 = .ok (.iconst 0, 1) := by decide +kernel
theorem dX0_endMove_2 : decode cX0_endMove 2 = .ok (.putfield 84, 3) := by decide +kernel
theorem dX0_endMove_5 : decode cX0_endMove 5 = .ok (.aload_n 0, 1) := by decide +kernel
theorem dX0_endMove_6 : decode cX0_endMove 6 = .ok (.getfield 34, 3) := by decide +kernel
theorem dX0_endMove_9 : decode cX0_endMove 9 = .ok (.invokevirtual 104, 3) := by decide +kernel
theorem dX0_endMove_12 : decode cX0_endMove 12 = .ok (.istore_n 2, 1) := by decide +kernel
theorem dX0_endMove_13 : decode cX0_endMove 13 = .ok (.iload_n 2, 1) := by decide +kernel
theorem dX0_endMove_14 : decode cX0_endMove 14 = .ok (.ifCond .le 16, 3) := by decide +kernel
theorem dX0_endMove_17 : decode cX0_endMove 17 = .ok (.aload_n 0, 1) := by decide +kernel
theorem dX0_endMove_18 : decode cX0_endMove 18 = .ok (.iconst 0, 1) := by decide +kernel
theorem dX0_endMove_19 : decode cX0_endMove 19 = .ok (.iload_n 2, 1) := by decide +kernel
theorem dX0_endMove_20 : decode cX0_endMove 20 = .ok (.invokevirtual 108, 3) := by decide +kernel
theorem dX0_endMove_23 : decode cX0_endMove 23 = .ok (.ifCond .ne 7, 3) := by decide +kernel
theorem dX0_endMove_26 : decode cX0_endMove 26 = .ok (.iconst 1, 1) := by decide +kernel
theorem dX0_endMove_27 : decode cX0_endMove 27 = .ok (.goto 4, 3) := by decide +kernel
theorem dX0_endMove_30 : decode cX0_endMove 30 = .ok (.iconst 0, 1) := by decide +kernel
theorem dX0_endMove_31 : decode cX0_endMove 31 = .ok (.istore_n 3, 1) := by decide +kernel
theorem dX0_endMove_32 : decode cX0_endMove 32 = .ok (.iload_n 3, 1) := by decide +kernel
theorem dX0_endMove_33 : decode cX0_endMove 33 = .ok (.ifCond .eq 37, 3) := by decide +kernel
theorem dX0_endMove_36 : decode cX0_endMove 36 = .ok (.aload_n 1, 1) := by decide +kernel
theorem dX0_endMove_37 : decode cX0_endMove 37 = .ok (.aload_n 0, 1) := by decide +kernel
theorem dX0_endMove_38 : decode cX0_endMove 38 = .ok (.getfield 27, 3) := by decide +kernel
theorem dX0_endMove_41 : decode cX0_endMove 41 = .ok (.aload_n 0, 1) := by decide +kernel
theorem dX0_endMove_42 : decode cX0_endMove 42 = .ok (.getfield 62, 3) := by decide +kernel
theorem dX0_endMove_45 : decode cX0_endMove 45 = .ok (.invokevirtual 94, 3) := by decide +kernel
theorem dX0_endMove_48 : decode cX0_endMove 48 = .ok (.aload_n 0, 1) := by decide +kernel
theorem dX0_endMove_49 : decode cX0_endMove 49 = .ok (.getfield 81, 3) := by decide +kernel
theorem dX0_endMove_52 : decode cX0_endMove 52 = .ok (.iadd, 1) := by decide +kernel
theorem dX0_endMove_53 : decode cX0_endMove 53 = .ok (.invokevirtual 152, 3) := by decide +kernel
theorem dX0_endMove_56 : decode cX0_endMove 56 = .ok (.aload_n 1, 1) := by decide +kernel
theorem dX0_endMove_57 : decode cX0_endMove 57 = .ok (.dup, 1) := by decide +kernel
theorem dX0_endMove_58 : decode cX0_endMove 58 = .ok (.getfield 164, 3) := by decide +kernel
theorem dX0_endMove_61 : decode cX0_endMove 61 = .ok (.iconst 1, 1) := by decide +kernel
theorem dX0_endMove_62 : decode cX0_endMove 62 = .ok (.iadd, 1) := by decide +kernel
theorem dX0_endMove_63 : decode cX0_endMove 63 = .ok (.putfield 164, 3) := by decide +kernel
theorem dX0_endMove_66 : decode cX0_endMove 66 = .ok (.aload_n 0, 1) := by decide +kernel
theorem dX0_endMove_67 : decode cX0_endMove 67 = .ok (.invokevirtual 158, 3) := by decide +kernel
theorem dX0_endMove_70 : decode cX0_endMove 70 = .ok (.aload_n 0, 1) := by decide +kernel
theorem dX0_endMove_71 : decode cX0_endMove 71 = .ok (.invokevirtual 161, 3) := by decide +kernel
theorem dX0_endMove_74 : decode cX0_endMove 74 = .ok (.iload_n 3, 1) := by decide +kernel
theorem dX0_endMove_75 : decode cX0_endMove 75 = .ok (.ifCond .eq 7, 3) := by decide +kernel
theorem dX0_endMove_78 : decode cX0_endMove 78 = .ok (.iconst 1, 1) := by decide +kernel
theorem dX0_endMove_79 : decode cX0_endMove 79 = .ok (.goto 4, 3) := by decide +kernel
theorem dX0_endMove_82 : decode cX0_endMove 82 = .ok (.iconst 0, 1) := by decide +kernel
theorem dX0_endMove_83 : decode cX0_endMove 83 = .ok (.ireturn, 1) := by decide +kernel
theorem dX0_openNextLot_0 : decode cX0_openNextLot 0 = .ok (.aload_n 0, 1) := by decide +kernel
theorem dX0_openNextLot_1 : decode cX0_openNextLot 1 = .ok (.dup, 1) := by decide +kernel
theorem dX0_openNextLot_2 : decode cX0_openNextLot 2 = .ok (.getfield 62, 3) := by decide +kernel
theorem dX0_openNextLot_5 : decode cX0_openNextLot 5 = .ok (.iconst 1, 1) := by decide +kernel
theorem dX0_openNextLot_6 : decode cX0_openNextLot 6 = .ok (.iadd, 1) := by decide +kernel
theorem dX0_openNextLot_7 : decode cX0_openNextLot 7 = .ok (.putfield 62, 3) := by decide +kernel
theorem dX0_openNextLot_10 : decode cX0_openNextLot 10 = .ok (.aload_n 0, 1) := by decide +kernel
theorem dX0_openNextLot_11 : decode cX0_openNextLot 11 = .ok (.invokevirtual 71, 3) := by decide +kernel
theorem dX0_openNextLot_14 : decode cX0_openNextLot 14 = .ok (.return_, 1) := by decide +kernel
theorem dX0_clearLot_0 : decode cX0_clearLot 0 = .ok (.aload_n 0, 1) := by decide +kernel
theorem dX0_clearLot_1 : decode cX0_clearLot 1 = .ok (.getfield 31, 3) := by decide +kernel
theorem dX0_clearLot_4 : decode cX0_clearLot 4 = .ok (.invokevirtual 59, 3) := by decide +kernel
theorem dX0_clearLot_7 : decode cX0_clearLot 7 = .ok (.aload_n 0, 1) := by decide +kernel
theorem dX0_clearLot_8 : decode cX0_clearLot 8 = .ok (.getfield 34, 3) := by decide +kernel
theorem dX0_clearLot_11 : decode cX0_clearLot 11 = .ok (.invokevirtual 59, 3) := by decide +kernel
theorem dX0_clearLot_14 : decode cX0_clearLot 14 = .ok (.aload_n 0, 1) := by decide +kernel
theorem dX0_clearLot_15 : decode cX0_clearLot 15 = .ok (.getfield 37, 3) := by decide +kernel
theorem dX0_clearLot_18 : decode cX0_clearLot 18 = .ok (.invokevirtual 59, 3) := by decide +kernel
theorem dX0_clearLot_21 : decode cX0_clearLot 21 = .ok (.aload_n 0, 1) := by decide +kernel
theorem dX0_clearLot_22 : decode cX0_clearLot 22 = .ok (.iconst 0, 1) := by decide +kernel
theorem dX0_clearLot_23 : decode cX0_clearLot 23 = .ok (.putfield 81, 3) := by decide +kernel
theorem dX0_clearLot_26 : decode cX0_clearLot 26 = .ok (.aload_n 0, 1) := by decide +kernel
theorem dX0_clearLot_27 : decode cX0_clearLot 27 = .ok (.iconst 0, 1) := by decide +kernel
theorem dX0_clearLot_28 : decode cX0_clearLot 28 = .ok (.putfield 84, 3) := by decide +kernel
theorem dX0_clearLot_31 : decode cX0_clearLot 31 = .ok (.return_, 1) := by decide +kernel
theorem dX0_turnToNext_0 : decode cX0_turnToNext 0 = .ok (.aload_n 0, 1) := by decide +kernel
theorem dX0_turnToNext_1 : decode cX0_turnToNext 1 = .ok (.aload_n 0, 1) := by decide +kernel
theorem dX0_turnToNext_2 : decode cX0_turnToNext 2 = .ok (.getfield 65, 3) := by decide +kernel
theorem dX0_turnToNext_5 : decode cX0_turnToNext 5 = .ok (.iconst 1, 1) := by decide +kernel
theorem dX0_turnToNext_6 : decode cX0_turnToNext 6 = .ok (.iadd, 1) := by decide +kernel
theorem dX0_turnToNext_7 : decode cX0_turnToNext 7 = .ok (.aload_n 0, 1) := by decide +kernel
theorem dX0_turnToNext_8 : decode cX0_turnToNext 8 = .ok (.getfield 56, 3) := by decide +kernel
theorem dX0_turnToNext_11 : decode cX0_turnToNext 11 = .ok (.if_icmp .ge 12, 3) := by decide +kernel
theorem dX0_turnToNext_14 : decode cX0_turnToNext 14 = .ok (.aload_n 0, 1) := by decide +kernel
theorem dX0_turnToNext_15 : decode cX0_turnToNext 15 = .ok (.getfield 65, 3) := by decide +kernel
theorem dX0_turnToNext_18 : decode cX0_turnToNext 18 = .ok (.iconst 1, 1) := by decide +kernel
theorem dX0_turnToNext_19 : decode cX0_turnToNext 19 = .ok (.iadd, 1) := by decide +kernel
theorem dX0_turnToNext_20 : decode cX0_turnToNext 20 = .ok (.goto 4, 3) := by decide +kernel
theorem dX0_turnToNext_23 : decode cX0_turnToNext 23 = .ok (.iconst 0, 1) := by decide +kernel
theorem dX0_turnToNext_24 : decode cX0_turnToNext 24 = .ok (.putfield 65, 3) := by decide +kernel
theorem dX0_turnToNext_27 : decode cX0_turnToNext 27 = .ok (.return_, 1) := by decide +kernel
theorem dX1_init_0 : decode cX1_init 0 = .ok (.aload_n 0, 1) := by decide +kernel
theorem dX1_init_1 : decode cX1_init 1 = .ok (.invokespecial 3, 3) := by decide +kernel
theorem dX1_init_4 : decode cX1_init 4 = .ok (.aload_n 0, 1) := by decide +kernel
theorem dX1_init_5 : decode cX1_init 5 = .ok (.new 9, 3) := by decide +kernel
theorem dX1_init_8 : decode cX1_init 8 = .ok (.dup, 1) := by decide +kernel
theorem dX1_init_9 : decode cX1_init 9 = .ok (.bipush 8, 2) := by decide +kernel
theorem dX1_init_11 : decode cX1_init 11 = .ok (.invokespecial 11, 3) := by decide +kernel
theorem dX1_init_14 : decode cX1_init 14 = .ok (.putfield 14, 3) := by decide +kernel
theorem dX1_init_17 : decode cX1_init 17 = .ok (.aload_n 0, 1) := by decide +kernel
theorem dX1_init_18 : decode cX1_init 18 = .ok (.new 9, 3) := by decide +kernel
theorem dX1_init_21 : decode cX1_init 21 = .ok (.dup, 1) := by decide +kernel
theorem dX1_init_22 : decode cX1_init 22 = .ok (.bipush 8, 2) := by decide +kernel
theorem dX1_init_24 : decode cX1_init 24 = .ok (.invokespecial 11, 3) := by decide +kernel
theorem dX1_init_27 : decode cX1_init 27 = .ok (.putfield 20, 3) := by decide +kernel
theorem dX1_init_30 : decode cX1_init 30 = .ok (.return_, 1) := by decide +kernel
theorem dX1_start_0 : decode cX1_start 0 = .ok (.aload_n 0, 1) := by decide +kernel
theorem dX1_start_1 : decode cX1_start 1 = .ok (.iload_n 1, 1) := by decide +kernel
theorem dX1_start_2 : decode cX1_start 2 = .ok (.putfield 23, 3) := by decide +kernel
theorem dX1_start_5 : decode cX1_start 5 = .ok (.aload_n 0, 1) := by decide +kernel
theorem dX1_start_6 : decode cX1_start 6 = .ok (.iconst 0, 1) := by decide +kernel
theorem dX1_start_7 : decode cX1_start 7 = .ok (.putfield 27, 3) := by decide +kernel
theorem dX1_start_10 : decode cX1_start 10 = .ok (.aload_n 0, 1) := by decide +kernel
theorem dX1_start_11 : decode cX1_start 11 = .ok (.getfield 14, 3) := by decide +kernel
theorem dX1_start_14 : decode cX1_start 14 = .ok (.invokevirtual 30, 3) := by decide +kernel
theorem dX1_start_17 : decode cX1_start 17 = .ok (.aload_n 0, 1) := by decide +kernel
theorem dX1_start_18 : decode cX1_start 18 = .ok (.getfield 20, 3) := by decide +kernel
theorem dX1_start_21 : decode cX1_start 21 = .ok (.invokevirtual 30, 3) := by decide +kernel
theorem dX1_start_24 : decode cX1_start 24 = .ok (.return_, 1) := by decide +kernel
theorem dX1_copyFrom_0 : decode cX1_copyFrom 0 = .ok (.aload_n 0, 1) := by decide +kernel
theorem dX1_copyFrom_1 : decode cX1_copyFrom 1 = .ok (.aload_n 1, 1) := by decide +kernel
theorem dX1_copyFrom_2 : decode cX1_copyFrom 2 = .ok (.getfield 23, 3) := by decide +kernel
theorem dX1_copyFrom_5 : decode cX1_copyFrom 5 = .ok (.putfield 23, 3) := by decide +kernel
theorem dX1_copyFrom_8 : decode cX1_copyFrom 8 = .ok (.aload_n 0, 1) := by decide +kernel
theorem dX1_copyFrom_9 : decode cX1_copyFrom 9 = .ok (.aload_n 1, 1) := by decide +kernel
theorem dX1_copyFrom_10 : decode cX1_copyFrom 10 = .ok (.getfield 27, 3) := by decide +kernel
theorem dX1_copyFrom_13 : decode cX1_copyFrom 13 = .ok (.putfield 27, 3) := by decide +kernel
theorem dX1_copyFrom_16 : decode cX1_copyFrom 16 = .ok (.aload_n 0, 1) := by decide +kernel
theorem dX1_copyFrom_17 : decode cX1_copyFrom 17 = .ok (.getfield 14, 3) := by decide +kernel
theorem dX1_copyFrom_20 : decode cX1_copyFrom 20 = .ok (.aload_n 1, 1) := by decide +kernel
theorem dX1_copyFrom_21 : decode cX1_copyFrom 21 = .ok (.getfield 14, 3) := by decide +kernel
theorem dX1_copyFrom_24 : decode cX1_copyFrom 24 = .ok (.invokevirtual 33, 3) := by decide +kernel
theorem dX1_copyFrom_27 : decode cX1_copyFrom 27 = .ok (.aload_n 0, 1) := by decide +kernel
theorem dX1_copyFrom_28 : decode cX1_copyFrom 28 = .ok (.getfield 20, 3) := by decide +kernel
theorem dX1_copyFrom_31 : decode cX1_copyFrom 31 = .ok (.aload_n 1, 1) := by decide +kernel
theorem dX1_copyFrom_32 : decode cX1_copyFrom 32 = .ok (.getfield 20, 3) := by decide +kernel
theorem dX1_copyFrom_35 : decode cX1_copyFrom 35 = .ok (.invokevirtual 33, 3) := by decide +kernel
theorem dX1_copyFrom_38 : decode cX1_copyFrom 38 = .ok (.return_, 1) := by decide +kernel
theorem dX1_takeCard_0 : decode cX1_takeCard 0 = .ok (.aload_n 0, 1) := by decide +kernel
theorem dX1_takeCard_1 : decode cX1_takeCard 1 = .ok (.getfield 14, 3) := by decide +kernel
theorem dX1_takeCard_4 : decode cX1_takeCard 4 = .ok (.iload_n 1, 1) := by decide +kernel
theorem dX1_takeCard_5 : decode cX1_takeCard 5 = .ok (.invokevirtual 37, 3) := by decide +kernel
theorem dX1_takeCard_8 : decode cX1_takeCard 8 = .ok (.aload_n 0, 1) := by decide +kernel
theorem dX1_takeCard_9 : decode cX1_takeCard 9 = .ok (.getfield 20, 3) := by decide +kernel
theorem dX1_takeCard_12 : decode cX1_takeCard 12 = .ok (.iload_n 2, 1) := by decide +kernel
theorem dX1_takeCard_13 : decode cX1_takeCard 13 = .ok (.invokevirtual 37, 3) := by decide +kernel
theorem dX1_takeCard_16 : decode cX1_takeCard 16 = .ok (.return_, 1) := by decide +kernel
theorem dX1_dropCard_0 : decode cX1_dropCard 0 = .ok (.aload_n 0, 1) := by decide +kernel
theorem dX1_dropCard_1 : decode cX1_dropCard 1 = .ok (.getfield 14, 3) := by decide +kernel
theorem dX1_dropCard_4 : decode cX1_dropCard 4 = .ok (.iload_n 1, 1) := by decide +kernel
theorem dX1_dropCard_5 : decode cX1_dropCard 5 = .ok (.invokevirtual 40, 3) := by decide +kernel
theorem dX1_dropCard_8 : decode cX1_dropCard 8 = .ok (.aload_n 0, 1) := by decide +kernel
theorem dX1_dropCard_9 : decode cX1_dropCard 9 = .ok (.getfield 20, 3) := by decide +kernel
theorem dX1_dropCard_12 : decode cX1_dropCard 12 = .ok (.iload_n 1, 1) := by decide +kernel
theorem dX1_dropCard_13 : decode cX1_dropCard 13 = .ok (.invokevirtual 40, 3) := by decide +kernel
theorem dX1_dropCard_16 : decode cX1_dropCard 16 = .ok (.return_, 1) := by decide +kernel
theorem dX1_receive_0 : decode cX1_receive 0 = .ok (.aload_n 0, 1) := by decide +kernel
theorem dX1_receive_1 : decode cX1_receive 1 = .ok (.iconst 0, 1) := by decide +kernel
theorem dX1_receive_2 : decode cX1_receive 2 = .ok (.ldc 43, 2) := by decide +kernel
theorem dX1_receive_4 : decode cX1_receive 4 = .ok (.aload_n 0, 1) := by decide +kernel
theorem dX1_receive_5 : decode cX1_receive 5 = .ok (.getfield 23, 3) := by decide +kernel
theorem dX1_receive_8 : decode cX1_receive 8 = .ok (.iload_n 1, 1) := by decide +kernel
theorem dX1_receive_9 : decode cX1_receive 9 = .ok (.iadd, 1) := by decide +kernel
theorem dX1_receive_10 : decode cX1_receive 10 = .ok (.invokestatic 44, 3) := by decide +kernel
theorem dX1_receive_13 : decode cX1_receive 13 = .ok (.invokestatic 50, 3) := by decide +kernel
theorem dX1_receive_16 : decode cX1_receive 16 = .ok (.putfield 23, 3) := by decide +kernel
theorem dX1_receive_19 : decode cX1_receive 19 = .ok (.return_, 1) := by decide +kernel
theorem dX2_init_0 : decode cX2_init 0 = .ok (.aload_n 0, 1) := by decide +kernel
theorem dX2_init_1 : decode cX2_init 1 = .ok (.invokespecial 3, 3) := by decide +kernel
theorem dX2_init_4 : decode cX2_init 4 = .ok (.aload_n 0, 1) := by decide +kernel
theorem dX2_init_5 : decode cX2_init 5 = .ok (.sipush 600, 3) := by decide +kernel
theorem dX2_init_8 : decode cX2_init 8 = .ok (.newarray .int, 2) := by decide +kernel
theorem dX2_init_10 : decode cX2_init 10 = .ok (.putfield 9, 3) := by decide +kernel
theorem dX2_init_13 : decode cX2_init 13 = .ok (.aload_n 0, 1) := by decide +kernel
theorem dX2_init_14 : decode cX2_init 14 = .ok (.sipush 625, 3) := by decide +kernel
theorem dX2_init_17 : decode cX2_init 17 = .ok (.newarray .int, 2) := by decide +kernel
theorem dX2_init_19 : decode cX2_init 19 = .ok (.putfield 15, 3) := by decide +kernel
theorem dX2_init_22 : decode cX2_init 22 = .ok (.iconst 0, 1) := by decide +kernel
theorem dX2_init_23 : decode cX2_init 23 = .ok (.istore_n 1, 1) := by decide +kernel
theorem dX2_init_24 : decode cX2_init 24 = .ok (.iconst 0, 1) := by decide +kernel
theorem dX2_init_25 : decode cX2_init 25 = .ok (.istore_n 2, 1) := by decide +kernel
theorem dX2_init_26 : decode cX2_init 26 = .ok (.iload_n 2, 1) := by decide +kernel
theorem dX2_init_27 : decode cX2_init 27 = .ok (.sipush 625, 3) := by decide +kernel
theorem dX2_init_30 : decode cX2_init 30 = .ok (.if_icmp .ge 151, 3) := by decide +kernel
theorem dX2_init_33 : decode cX2_init 33 = .ok (.iload_n 1, 1) := by decide +kernel
theorem dX2_init_34 : decode cX2_init 34 = .ok (.bipush 120, 2) := by decide +kernel
theorem dX2_init_36 : decode cX2_init 36 = .ok (.if_icmp .ge 145, 3) := by decide +kernel
theorem dX2_init_39 : decode cX2_init 39 = .ok (.iconst 4, 1) := by decide +kernel
theorem dX2_init_40 : decode cX2_init 40 = .ok (.iload_n 2, 1) := by decide +kernel
theorem dX2_init_41 : decode cX2_init 41 = .ok (.bipush 125, 2) := by decide +kernel
theorem dX2_init_43 : decode cX2_init 43 = .ok (.idiv, 1) := by decide +kernel
theorem dX2_init_44 : decode cX2_init 44 = .ok (.isub, 1) := by decide +kernel
theorem dX2_init_45 : decode cX2_init 45 = .ok (.istore_n 3, 1) := by decide +kernel
theorem dX2_init_46 : decode cX2_init 46 = .ok (.iconst 4, 1) := by decide +kernel
theorem dX2_init_47 : decode cX2_init 47 = .ok (.iload_n 2, 1) := by decide +kernel
theorem dX2_init_48 : decode cX2_init 48 = .ok (.bipush 25, 2) := by decide +kernel
theorem dX2_init_50 : decode cX2_init 50 = .ok (.idiv, 1) := by decide +kernel
theorem dX2_init_51 : decode cX2_init 51 = .ok (.iconst 5, 1) := by decide +kernel
theorem dX2_init_52 : decode cX2_init 52 = .ok (.irem, 1) := by decide +kernel
theorem dX2_init_53 : decode cX2_init 53 = .ok (.isub, 1) := by decide +kernel
theorem dX2_init_54 : decode cX2_init 54 = .ok (.istore 4, 2) := by decide +kernel
theorem dX2_init_56 : decode cX2_init 56 = .ok (.iconst 4, 1) := by decide +kernel
theorem dX2_init_57 : decode cX2_init 57 = .ok (.iload_n 2, 1) := by decide +kernel
theorem dX2_init_58 : decode cX2_init 58 = .ok (.iconst 5, 1) := by decide +kernel
theorem dX2_init_59 : decode cX2_init 59 = .ok (.idiv, 1) := by decide +kernel
theorem dX2_init_60 : decode cX2_init 60 = .ok (.iconst 5, 1) := by decide +kernel
theorem dX2_init_61 : decode cX2_init 61 = .ok (.irem, 1) := by decide +kernel
theorem dX2_init_62 : decode cX2_init 62 = .ok (.isub, 1) := by decide +kernel
theorem dX2_init_63 : decode cX2_init 63 = .ok (.istore 5, 2) := by decide +kernel
theorem dX2_init_65 : decode cX2_init 65 = .ok (.iconst 4, 1) := by decide +kernel
theorem dX2_init_66 : decode cX2_init 66 = .ok (.iload_n 2, 1) := by decide +kernel
theorem dX2_init_67 : decode cX2_init 67 = .ok (.iconst 5, 1) := by decide +kernel
theorem dX2_init_68 : decode cX2_init 68 = .ok (.irem, 1) := by decide +kernel
theorem dX2_init_69 : decode cX2_init 69 = .ok (.isub, 1) := by decide +kernel
theorem dX2_init_70 : decode cX2_init 70 = .ok (.istore 6, 2) := by decide +kernel
theorem dX2_init_72 : decode cX2_init 72 = .ok (.iconst 1, 1) := by decide +kernel
theorem dX2_init_73 : decode cX2_init 73 = .ok (.iload_n 3, 1) := by decide +kernel
theorem dX2_init_74 : decode cX2_init 74 = .ok (.ishl, 1) := by decide +kernel
theorem dX2_init_75 : decode cX2_init 75 = .ok (.iconst 1, 1) := by decide +kernel
theorem dX2_init_76 : decode cX2_init 76 = .ok (.iload 4, 2) := by decide +kernel
theorem dX2_init_78 : decode cX2_init 78 = .ok (.ishl, 1) := by decide +kernel
theorem dX2_init_79 : decode cX2_init 79 = .ok (.ior, 1) := by decide +kernel
theorem dX2_init_80 : decode cX2_init 80 = .ok (.iconst 1, 1) := by decide +kernel
theorem dX2_init_81 : decode cX2_init 81 = .ok (.iload 5, 2) := by decide +kernel
theorem dX2_init_83 : decode cX2_init 83 = .ok (.ishl, 1) := by decide +kernel
theorem dX2_init_84 : decode cX2_init 84 = .ok (.ior, 1) := by decide +kernel
theorem dX2_init_85 : decode cX2_init 85 = .ok (.iconst 1, 1) := by decide +kernel
theorem dX2_init_86 : decode cX2_init 86 = .ok (.iload 6, 2) := by decide +kernel
theorem dX2_init_88 : decode cX2_init 88 = .ok (.ishl, 1) := by decide +kernel
theorem dX2_init_89 : decode cX2_init 89 = .ok (.ior, 1) := by decide +kernel
theorem dX2_init_90 : decode cX2_init 90 = .ok (.invokestatic 18, 3) := by decide +kernel
theorem dX2_init_93 : decode cX2_init 93 = .ok (.iconst 4, 1) := by decide +kernel
theorem dX2_init_94 : decode cX2_init 94 = .ok (.if_icmp .ne 81, 3) := by decide +kernel
theorem dX2_init_97 : decode cX2_init 97 = .ok (.iload_n 1, 1) := by decide +kernel
theorem dX2_init_98 : decode cX2_init 98 = .ok (.iconst 5, 1) := by decide +kernel
theorem dX2_init_99 : decode cX2_init 99 = .ok (.imul, 1) := by decide +kernel
theorem dX2_init_100 : decode cX2_init 100 = .ok (.istore 7, 2) := by decide +kernel
theorem dX2_init_102 : decode cX2_init 102 = .ok (.aload_n 0, 1) := by decide +kernel
theorem dX2_init_103 : decode cX2_init 103 = .ok (.getfield 9, 3) := by decide +kernel
theorem dX2_init_106 : decode cX2_init 106 = .ok (.iload 7, 2) := by decide +kernel
theorem dX2_init_108 : decode cX2_init 108 = .ok (.bipush 10, 2) := by decide +kernel
theorem dX2_init_110 : decode cX2_init 110 = .ok (.iload_n 3, 1) := by decide +kernel
theorem dX2_init_111 : decode cX2_init 111 = .ok (.isub, 1) := by decide +kernel
theorem dX2_init_112 : decode cX2_init 112 = .ok (.iload 4, 2) := by decide +kernel
theorem dX2_init_114 : decode cX2_init 114 = .ok (.isub, 1) := by decide +kernel
theorem dX2_init_115 : decode cX2_init 115 = .ok (.iload 5, 2) := by decide +kernel
theorem dX2_init_117 : decode cX2_init 117 = .ok (.isub, 1) := by decide +kernel
theorem dX2_init_118 : decode cX2_init 118 = .ok (.iload 6, 2) := by decide +kernel
theorem dX2_init_120 : decode cX2_init 120 = .ok (.isub, 1) := by decide +kernel
theorem dX2_init_121 : decode cX2_init 121 = .ok (.iastore, 1) := by decide +kernel
theorem dX2_init_122 : decode cX2_init 122 = .ok (.aload_n 0, 1) := by decide +kernel
theorem dX2_init_123 : decode cX2_init 123 = .ok (.getfield 9, 3) := by decide +kernel
theorem dX2_init_126 : decode cX2_init 126 = .ok (.iload 7, 2) := by decide +kernel
theorem dX2_init_128 : decode cX2_init 128 = .ok (.iconst 1, 1) := by decide +kernel
theorem dX2_init_129 : decode cX2_init 129 = .ok (.iadd, 1) := by decide +kernel
theorem dX2_init_130 : decode cX2_init 130 = .ok (.iload 6, 2) := by decide +kernel
theorem dX2_init_132 : decode cX2_init 132 = .ok (.iastore, 1) := by decide +kernel
theorem dX2_init_133 : decode cX2_init 133 = .ok (.aload_n 0, 1) := by decide +kernel
theorem dX2_init_134 : decode cX2_init 134 = .ok (.getfield 9, 3) := by decide +kernel
theorem dX2_init_137 : decode cX2_init 137 = .ok (.iload 7, 2) := by decide +kernel
theorem dX2_init_139 : decode cX2_init 139 = .ok (.iconst 2, 1) := by decide +kernel
theorem dX2_init_140 : decode cX2_init 140 = .ok (.iadd, 1) := by decide +kernel
theorem dX2_init_141 : decode cX2_init 141 = .ok (.iload 5, 2) := by decide +kernel
theorem dX2_init_143 : decode cX2_init 143 = .ok (.iastore, 1) := by decide +kernel
theorem dX2_init_144 : decode cX2_init 144 = .ok (.aload_n 0, 1) := by decide +kernel
theorem dX2_init_145 : decode cX2_init 145 = .ok (.getfield 9, 3) := by decide +kernel
theorem dX2_init_148 : decode cX2_init 148 = .ok (.iload 7, 2) := by decide +kernel
theorem dX2_init_150 : decode cX2_init 150 = .ok (.iconst 3, 1) := by decide +kernel
theorem dX2_init_151 : decode cX2_init 151 = .ok (.iadd, 1) := by decide +kernel
theorem dX2_init_152 : decode cX2_init 152 = .ok (.iload 4, 2) := by decide +kernel
theorem dX2_init_154 : decode cX2_init 154 = .ok (.iastore, 1) := by decide +kernel
theorem dX2_init_155 : decode cX2_init 155 = .ok (.aload_n 0, 1) := by decide +kernel
theorem dX2_init_156 : decode cX2_init 156 = .ok (.getfield 9, 3) := by decide +kernel
theorem dX2_init_159 : decode cX2_init 159 = .ok (.iload 7, 2) := by decide +kernel
theorem dX2_init_161 : decode cX2_init 161 = .ok (.iconst 4, 1) := by decide +kernel
theorem dX2_init_162 : decode cX2_init 162 = .ok (.iadd, 1) := by decide +kernel
theorem dX2_init_163 : decode cX2_init 163 = .ok (.iload_n 3, 1) := by decide +kernel
theorem dX2_init_164 : decode cX2_init 164 = .ok (.iastore, 1) := by decide +kernel
theorem dX2_init_165 : decode cX2_init 165 = .ok (.aload_n 0, 1) := by decide +kernel
theorem dX2_init_166 : decode cX2_init 166 = .ok (.getfield 15, 3) := by decide +kernel
theorem dX2_init_169 : decode cX2_init 169 = .ok (.iload_n 2, 1) := by decide +kernel
theorem dX2_init_170 : decode cX2_init 170 = .ok (.iload_n 1, 1) := by decide +kernel
theorem dX2_init_171 : decode cX2_init 171 = .ok (.iastore, 1) := by decide +kernel
theorem dX2_init_172 : decode cX2_init 172 = .ok (.iinc 1 1, 3) := by decide +kernel
theorem dX2_init_175 : decode cX2_init 175 = .ok (.iinc 2 1, 3) := by decide +kernel
theorem dX2_init_178 : decode cX2_init 178 = .ok (.goto (-152), 3) := by decide +kernel
theorem dX2_init_181 : decode cX2_init 181 = .ok (.return_, 1) := by decide +kernel
theorem dX2_count_0 : decode cX2_count 0 = .ok (.iconst 1, 1) := by decide +kernel
theorem dX2_count_1 : decode cX2_count 1 = .ok (.istore_n 2, 1) := by decide +kernel
theorem dX2_count_2 : decode cX2_count 2 = .ok (.iconst 2, 1) := by decide +kernel
theorem dX2_count_3 : decode cX2_count 3 = .ok (.istore_n 3, 1) := by decide +kernel
theorem dX2_count_4 : decode cX2_count 4 = .ok (.iload_n 3, 1) := by decide +kernel
theorem dX2_count_5 : decode cX2_count 5 = .ok (.iload_n 1, 1) := by decide +kernel
theorem dX2_count_6 : decode cX2_count 6 = .ok (.if_icmp .gt 18, 3) := by decide +kernel
theorem dX2_count_9 : decode cX2_count 9 = .ok (.iload_n 3, 1) := by decide +kernel
theorem dX2_count_10 : decode cX2_count 10 = .ok (.iconst 5, 1) := by decide +kernel
theorem dX2_count_11 : decode cX2_count 11 = .ok (.if_icmp .gt 13, 3) := by decide +kernel
theorem dX2_count_14 : decode cX2_count 14 = .ok (.iload_n 2, 1) := by decide +kernel
theorem dX2_count_15 : decode cX2_count 15 = .ok (.iload_n 3, 1) := by decide +kernel
theorem dX2_count_16 : decode cX2_count 16 = .ok (.imul, 1) := by decide +kernel
theorem dX2_count_17 : decode cX2_count 17 = .ok (.istore_n 2, 1) := by decide +kernel
theorem dX2_count_18 : decode cX2_count 18 = .ok (.iinc 3 1, 3) := by decide +kernel
theorem dX2_count_21 : decode cX2_count 21 = .ok (.goto (-17), 3) := by decide +kernel
theorem dX2_count_24 : decode cX2_count 24 = .ok (.iload_n 2, 1) := by decide +kernel
theorem dX2_count_25 : decode cX2_count 25 = .ok (.ireturn, 1) := by decide +kernel
theorem dX2_goal_0 : decode cX2_goal 0 = .ok (.iload_n 1, 1) := by decide +kernel
theorem dX2_goal_1 : decode cX2_goal 1 = .ok (.ifCond .lt 18, 3) := by decide +kernel
theorem dX2_goal_4 : decode cX2_goal 4 = .ok (.iload_n 1, 1) := by decide +kernel
theorem dX2_goal_5 : decode cX2_goal 5 = .ok (.bipush 120, 2) := by decide +kernel
theorem dX2_goal_7 : decode cX2_goal 7 = .ok (.if_icmp .ge 12, 3) := by decide +kernel
theorem dX2_goal_10 : decode cX2_goal 10 = .ok (.iload_n 2, 1) := by decide +kernel
theorem dX2_goal_11 : decode cX2_goal 11 = .ok (.ifCond .lt 8, 3) := by decide +kernel
theorem dX2_goal_14 : decode cX2_goal 14 = .ok (.iload_n 2, 1) := by decide +kernel
theorem dX2_goal_15 : decode cX2_goal 15 = .ok (.iconst 5, 1) := by decide +kernel
theorem dX2_goal_16 : decode cX2_goal 16 = .ok (.if_icmp .lt 5, 3) := by decide +kernel
theorem dX2_goal_19 : decode cX2_goal 19 = .ok (.iconst 0, 1) := by decide +kernel
theorem dX2_goal_20 : decode cX2_goal 20 = .ok (.ireturn, 1) := by decide +kernel
theorem dX2_goal_21 : decode cX2_goal 21 = .ok (.aload_n 0, 1) := by decide +kernel
theorem dX2_goal_22 : decode cX2_goal 22 = .ok (.getfield 9, 3) := by decide +kernel
theorem dX2_goal_25 : decode cX2_goal 25 = .ok (.iload_n 1, 1) := by decide +kernel
theorem dX2_goal_26 : decode cX2_goal 26 = .ok (.iconst 5, 1) := by decide +kernel
theorem dX2_goal_27 : decode cX2_goal 27 = .ok (.imul, 1) := by decide +kernel
theorem dX2_goal_28 : decode cX2_goal 28 = .ok (.iload_n 2, 1) := by decide +kernel
theorem dX2_goal_29 : decode cX2_goal 29 = .ok (.iadd, 1) := by decide +kernel
theorem dX2_goal_30 : decode cX2_goal 30 = .ok (.iaload, 1) := by decide +kernel
theorem dX2_goal_31 : decode cX2_goal 31 = .ok (.ireturn, 1) := by decide +kernel
theorem dX2_longerKey_0 : decode cX2_longerKey 0 = .ok (.iload_n 1, 1) := by decide +kernel
theorem dX2_longerKey_1 : decode cX2_longerKey 1 = .ok (.iconst 5, 1) := by decide +kernel
theorem dX2_longerKey_2 : decode cX2_longerKey 2 = .ok (.imul, 1) := by decide +kernel
theorem dX2_longerKey_3 : decode cX2_longerKey 3 = .ok (.iconst 5, 1) := by decide +kernel
theorem dX2_longerKey_4 : decode cX2_longerKey 4 = .ok (.iadd, 1) := by decide +kernel
theorem dX2_longerKey_5 : decode cX2_longerKey 5 = .ok (.iconst 1, 1) := by decide +kernel
theorem dX2_longerKey_6 : decode cX2_longerKey 6 = .ok (.isub, 1) := by decide +kernel
theorem dX2_longerKey_7 : decode cX2_longerKey 7 = .ok (.iload_n 2, 1) := by decide +kernel
theorem dX2_longerKey_8 : decode cX2_longerKey 8 = .ok (.isub, 1) := by decide +kernel
theorem dX2_longerKey_9 : decode cX2_longerKey 9 = .ok (.ireturn, 1) := by decide +kernel
theorem dX2_withKey_0 : decode cX2_withKey 0 = .ok (.iload_n 1, 1) := by decide +kernel
theorem dX2_withKey_1 : decode cX2_withKey 1 = .ok (.ifCond .lt 19, 3) := by decide +kernel
theorem dX2_withKey_4 : decode cX2_withKey 4 = .ok (.iload_n 1, 1) := by decide +kernel
theorem dX2_withKey_5 : decode cX2_withKey 5 = .ok (.sipush 625, 3) := by decide +kernel
theorem dX2_withKey_8 : decode cX2_withKey 8 = .ok (.if_icmp .ge 12, 3) := by decide +kernel
theorem dX2_withKey_11 : decode cX2_withKey 11 = .ok (.aload_n 0, 1) := by decide +kernel
theorem dX2_withKey_12 : decode cX2_withKey 12 = .ok (.getfield 15, 3) := by decide +kernel
theorem dX2_withKey_15 : decode cX2_withKey 15 = .ok (.iload_n 1, 1) := by decide +kernel
theorem dX2_withKey_16 : decode cX2_withKey 16 = .ok (.iaload, 1) := by decide +kernel
theorem dX2_withKey_17 : decode cX2_withKey 17 = .ok (.goto 4, 3) := by decide +kernel
theorem dX2_withKey_20 : decode cX2_withKey 20 = .ok (.iconst 0, 1) := by decide +kernel
theorem dX2_withKey_21 : decode cX2_withKey 21 = .ok (.ireturn, 1) := by decide +kernel
theorem dX2_times_0 : decode cX2_times 0 = .ok (.iconst 0, 1) := by decide +kernel
theorem dX2_times_1 : decode cX2_times 1 = .ok (.istore_n 3, 1) := by decide +kernel
theorem dX2_times_2 : decode cX2_times 2 = .ok (.iconst 4, 1) := by decide +kernel
theorem dX2_times_3 : decode cX2_times 3 = .ok (.istore 4, 2) := by decide +kernel
theorem dX2_times_5 : decode cX2_times 5 = .ok (.iload 4, 2) := by decide +kernel
theorem dX2_times_7 : decode cX2_times 7 = .ok (.ifCond .le 27, 3) := by decide +kernel
theorem dX2_times_10 : decode cX2_times 10 = .ok (.aload_n 0, 1) := by decide +kernel
theorem dX2_times_11 : decode cX2_times 11 = .ok (.iload_n 3, 1) := by decide +kernel
theorem dX2_times_12 : decode cX2_times 12 = .ok (.aload_n 0, 1) := by decide +kernel
theorem dX2_times_13 : decode cX2_times 13 = .ok (.iload_n 2, 1) := by decide +kernel
theorem dX2_times_14 : decode cX2_times 14 = .ok (.aload_n 0, 1) := by decide +kernel
theorem dX2_times_15 : decode cX2_times 15 = .ok (.iload_n 1, 1) := by decide +kernel
theorem dX2_times_16 : decode cX2_times 16 = .ok (.iload 4, 2) := by decide +kernel
theorem dX2_times_18 : decode cX2_times 18 = .ok (.invokevirtual 24, 3) := by decide +kernel
theorem dX2_times_21 : decode cX2_times 21 = .ok (.invokevirtual 24, 3) := by decide +kernel
theorem dX2_times_24 : decode cX2_times 24 = .ok (.invokevirtual 28, 3) := by decide +kernel
theorem dX2_times_27 : decode cX2_times 27 = .ok (.istore_n 3, 1) := by decide +kernel
theorem dX2_times_28 : decode cX2_times 28 = .ok (.iinc 4 (-1), 3) := by decide +kernel
theorem dX2_times_31 : decode cX2_times 31 = .ok (.goto (-26), 3) := by decide +kernel
theorem dX2_times_34 : decode cX2_times 34 = .ok (.aload_n 0, 1) := by decide +kernel
theorem dX2_times_35 : decode cX2_times 35 = .ok (.iload_n 3, 1) := by decide +kernel
theorem dX2_times_36 : decode cX2_times 36 = .ok (.invokevirtual 31, 3) := by decide +kernel
theorem dX2_times_39 : decode cX2_times 39 = .ok (.ireturn, 1) := by decide +kernel
theorem dX2_opposite_0 : decode cX2_opposite 0 = .ok (.iconst 0, 1) := by decide +kernel
theorem dX2_opposite_1 : decode cX2_opposite 1 = .ok (.istore_n 2, 1) := by decide +kernel
theorem dX2_opposite_2 : decode cX2_opposite 2 = .ok (.iconst 0, 1) := by decide +kernel
theorem dX2_opposite_3 : decode cX2_opposite 3 = .ok (.istore_n 3, 1) := by decide +kernel
theorem dX2_opposite_4 : decode cX2_opposite 4 = .ok (.iload_n 3, 1) := by decide +kernel
theorem dX2_opposite_5 : decode cX2_opposite 5 = .ok (.bipush 120, 2) := by decide +kernel
theorem dX2_opposite_7 : decode cX2_opposite 7 = .ok (.if_icmp .ge 27, 3) := by decide +kernel
theorem dX2_opposite_10 : decode cX2_opposite 10 = .ok (.aload_n 0, 1) := by decide +kernel
theorem dX2_opposite_11 : decode cX2_opposite 11 = .ok (.iload_n 2, 1) := by decide +kernel
theorem dX2_opposite_12 : decode cX2_opposite 12 = .ok (.iload_n 1, 1) := by decide +kernel
theorem dX2_opposite_13 : decode cX2_opposite 13 = .ok (.invokevirtual 34, 3) := by decide +kernel
theorem dX2_opposite_16 : decode cX2_opposite 16 = .ok (.istore 4, 2) := by decide +kernel
theorem dX2_opposite_18 : decode cX2_opposite 18 = .ok (.iload 4, 2) := by decide +kernel
theorem dX2_opposite_20 : decode cX2_opposite 20 = .ok (.ifCond .ne 5, 3) := by decide +kernel
theorem dX2_opposite_23 : decode cX2_opposite 23 = .ok (.iload_n 2, 1) := by decide +kernel
theorem dX2_opposite_24 : decode cX2_opposite 24 = .ok (.ireturn, 1) := by decide +kernel
theorem dX2_opposite_25 : decode cX2_opposite 25 = .ok (.iload 4, 2) := by decide +kernel
theorem dX2_opposite_27 : decode cX2_opposite 27 = .ok (.istore_n 2, 1) := by decide +kernel
theorem dX2_opposite_28 : decode cX2_opposite 28 = .ok (.iinc 3 1, 3) := by decide +kernel
theorem dX2_opposite_31 : decode cX2_opposite 31 = .ok (.goto (-27), 3) := by decide +kernel
theorem dX2_opposite_34 : decode cX2_opposite 34 = .ok (.iconst 0, 1) := by decide +kernel
theorem dX2_opposite_35 : decode cX2_opposite 35 = .ok (.ireturn, 1) := by decide +kernel
theorem dX2_period_0 : decode cX2_period 0 = .ok (.iload_n 1, 1) := by decide +kernel
theorem dX2_period_1 : decode cX2_period 1 = .ok (.istore_n 2, 1) := by decide +kernel
theorem dX2_period_2 : decode cX2_period 2 = .ok (.iconst 1, 1) := by decide +kernel
theorem dX2_period_3 : decode cX2_period 3 = .ok (.istore_n 3, 1) := by decide +kernel
theorem dX2_period_4 : decode cX2_period 4 = .ok (.iload_n 2, 1) := by decide +kernel
theorem dX2_period_5 : decode cX2_period 5 = .ok (.ifCond .eq 22, 3) := by decide +kernel
theorem dX2_period_8 : decode cX2_period 8 = .ok (.iload_n 3, 1) := by decide +kernel
theorem dX2_period_9 : decode cX2_period 9 = .ok (.bipush 120, 2) := by decide +kernel
theorem dX2_period_11 : decode cX2_period 11 = .ok (.if_icmp .ge 16, 3) := by decide +kernel
theorem dX2_period_14 : decode cX2_period 14 = .ok (.aload_n 0, 1) := by decide +kernel
theorem dX2_period_15 : decode cX2_period 15 = .ok (.iload_n 2, 1) := by decide +kernel
theorem dX2_period_16 : decode cX2_period 16 = .ok (.iload_n 1, 1) := by decide +kernel
theorem dX2_period_17 : decode cX2_period 17 = .ok (.invokevirtual 34, 3) := by decide +kernel
theorem dX2_period_20 : decode cX2_period 20 = .ok (.istore_n 2, 1) := by decide +kernel
theorem dX2_period_21 : decode cX2_period 21 = .ok (.iinc 3 1, 3) := by decide +kernel
theorem dX2_period_24 : decode cX2_period 24 = .ok (.goto (-20), 3) := by decide +kernel
theorem dX2_period_27 : decode cX2_period 27 = .ok (.iload_n 3, 1) := by decide +kernel
theorem dX2_period_28 : decode cX2_period 28 = .ok (.ireturn, 1) := by decide +kernel
theorem dX2_fromNumber_0 : decode cX2_fromNumber 0 = .ok (.iload_n 1, 1) := by decide +kernel
theorem dX2_fromNumber_1 : decode cX2_fromNumber 1 = .ok (.istore_n 3, 1) := by decide +kernel
theorem dX2_fromNumber_2 : decode cX2_fromNumber 2 = .ok (.iconst 0, 1) := by decide +kernel
theorem dX2_fromNumber_3 : decode cX2_fromNumber 3 = .ok (.istore 4, 2) := by decide +kernel
theorem dX2_fromNumber_5 : decode cX2_fromNumber 5 = .ok (.iconst 0, 1) := by decide +kernel
theorem dX2_fromNumber_6 : decode cX2_fromNumber 6 = .ok (.istore 5, 2) := by decide +kernel
theorem dX2_fromNumber_8 : decode cX2_fromNumber 8 = .ok (.iconst 4, 1) := by decide +kernel
theorem dX2_fromNumber_9 : decode cX2_fromNumber 9 = .ok (.istore 6, 2) := by decide +kernel
theorem dX2_fromNumber_11 : decode cX2_fromNumber 11 = .ok (.iload 6, 2) := by decide +kernel
theorem dX2_fromNumber_13 : decode cX2_fromNumber 13 = .ok (.ifCond .lt 74, 3) := by decide +kernel
theorem dX2_fromNumber_16 : decode cX2_fromNumber 16 = .ok (.iload 6, 2) := by decide +kernel
theorem dX2_fromNumber_18 : decode cX2_fromNumber 18 = .ok (.istore 7, 2) := by decide +kernel
theorem dX2_fromNumber_20 : decode cX2_fromNumber 20 = .ok (.iload 6, 2) := by decide +kernel
theorem dX2_fromNumber_22 : decode cX2_fromNumber 22 = .ok (.iload_n 2, 1) := by decide +kernel
theorem dX2_fromNumber_23 : decode cX2_fromNumber 23 = .ok (.if_icmp .ge 29, 3) := by decide +kernel
theorem dX2_fromNumber_26 : decode cX2_fromNumber 26 = .ok (.iload_n 3, 1) := by decide +kernel
theorem dX2_fromNumber_27 : decode cX2_fromNumber 27 = .ok (.bipush 10, 2) := by decide +kernel
theorem dX2_fromNumber_29 : decode cX2_fromNumber 29 = .ok (.irem, 1) := by decide +kernel
theorem dX2_fromNumber_30 : decode cX2_fromNumber 30 = .ok (.iconst 1, 1) := by decide +kernel
theorem dX2_fromNumber_31 : decode cX2_fromNumber 31 = .ok (.isub, 1) := by decide +kernel
theorem dX2_fromNumber_32 : decode cX2_fromNumber 32 = .ok (.istore 7, 2) := by decide +kernel
theorem dX2_fromNumber_34 : decode cX2_fromNumber 34 = .ok (.iload_n 3, 1) := by decide +kernel
theorem dX2_fromNumber_35 : decode cX2_fromNumber 35 = .ok (.bipush 10, 2) := by decide +kernel
theorem dX2_fromNumber_37 : decode cX2_fromNumber 37 = .ok (.idiv, 1) := by decide +kernel
theorem dX2_fromNumber_38 : decode cX2_fromNumber 38 = .ok (.istore_n 3, 1) := by decide +kernel
theorem dX2_fromNumber_39 : decode cX2_fromNumber 39 = .ok (.iload 7, 2) := by decide +kernel
theorem dX2_fromNumber_41 : decode cX2_fromNumber 41 = .ok (.ifCond .lt 9, 3) := by decide +kernel
theorem dX2_fromNumber_44 : decode cX2_fromNumber 44 = .ok (.iload 7, 2) := by decide +kernel
theorem dX2_fromNumber_46 : decode cX2_fromNumber 46 = .ok (.iload_n 2, 1) := by decide +kernel
theorem dX2_fromNumber_47 : decode cX2_fromNumber 47 = .ok (.if_icmp .lt 5, 3) := by decide +kernel
theorem dX2_fromNumber_50 : decode cX2_fromNumber 50 = .ok (.iconst (-1), 1) := by decide +kernel
theorem dX2_fromNumber_51 : decode cX2_fromNumber 51 = .ok (.ireturn, 1) := by decide +kernel
theorem dX2_fromNumber_52 : decode cX2_fromNumber 52 = .ok (.iload 4, 2) := by decide +kernel
theorem dX2_fromNumber_54 : decode cX2_fromNumber 54 = .ok (.iconst 1, 1) := by decide +kernel
theorem dX2_fromNumber_55 : decode cX2_fromNumber 55 = .ok (.iload 7, 2) := by decide +kernel
theorem dX2_fromNumber_57 : decode cX2_fromNumber 57 = .ok (.ishl, 1) := by decide +kernel
theorem dX2_fromNumber_58 : decode cX2_fromNumber 58 = .ok (.ior, 1) := by decide +kernel
theorem dX2_fromNumber_59 : decode cX2_fromNumber 59 = .ok (.istore 4, 2) := by decide +kernel
theorem dX2_fromNumber_61 : decode cX2_fromNumber 61 = .ok (.iload 6, 2) := by decide +kernel
theorem dX2_fromNumber_63 : decode cX2_fromNumber 63 = .ok (.ifCond .le 14, 3) := by decide +kernel
theorem dX2_fromNumber_66 : decode cX2_fromNumber 66 = .ok (.aload_n 0, 1) := by decide +kernel
theorem dX2_fromNumber_67 : decode cX2_fromNumber 67 = .ok (.iload 5, 2) := by decide +kernel
theorem dX2_fromNumber_69 : decode cX2_fromNumber 69 = .ok (.iload 7, 2) := by decide +kernel
theorem dX2_fromNumber_71 : decode cX2_fromNumber 71 = .ok (.invokevirtual 28, 3) := by decide +kernel
theorem dX2_fromNumber_74 : decode cX2_fromNumber 74 = .ok (.goto 5, 3) := by decide +kernel
theorem dX2_fromNumber_77 : decode cX2_fromNumber 77 = .ok (.iload 5, 2) := by decide +kernel
theorem dX2_fromNumber_79 : decode cX2_fromNumber 79 = .ok (.istore 5, 2) := by decide +kernel
theorem dX2_fromNumber_81 : decode cX2_fromNumber 81 = .ok (.iinc 6 (-1), 3) := by decide +kernel
theorem dX2_fromNumber_84 : decode cX2_fromNumber 84 = .ok (.goto (-73), 3) := by decide +kernel
theorem dX2_fromNumber_87 : decode cX2_fromNumber 87 = .ok (.iload_n 3, 1) := by decide +kernel
theorem dX2_fromNumber_88 : decode cX2_fromNumber 88 = .ok (.ifCond .ne 12, 3) := by decide +kernel
theorem dX2_fromNumber_91 : decode cX2_fromNumber 91 = .ok (.iload 4, 2) := by decide +kernel
theorem dX2_fromNumber_93 : decode cX2_fromNumber 93 = .ok (.invokestatic 18, 3) := by decide +kernel
theorem dX2_fromNumber_96 : decode cX2_fromNumber 96 = .ok (.iconst 5, 1) := by decide +kernel
theorem dX2_fromNumber_97 : decode cX2_fromNumber 97 = .ok (.if_icmp .eq 5, 3) := by decide +kernel
theorem dX2_fromNumber_100 : decode cX2_fromNumber 100 = .ok (.iconst (-1), 1) := by decide +kernel
theorem dX2_fromNumber_101 : decode cX2_fromNumber 101 = .ok (.ireturn, 1) := by decide +kernel
theorem dX2_fromNumber_102 : decode cX2_fromNumber 102 = .ok (.aload_n 0, 1) := by decide +kernel
theorem dX2_fromNumber_103 : decode cX2_fromNumber 103 = .ok (.iload 5, 2) := by decide +kernel
theorem dX2_fromNumber_105 : decode cX2_fromNumber 105 = .ok (.invokevirtual 31, 3) := by decide +kernel
theorem dX2_fromNumber_108 : decode cX2_fromNumber 108 = .ok (.ireturn, 1) := by decide +kernel
theorem dX2_toNumber_0 : decode cX2_toNumber 0 = .ok (.iconst 0, 1) := by decide +kernel
theorem dX2_toNumber_1 : decode cX2_toNumber 1 = .ok (.istore_n 3, 1) := by decide +kernel
theorem dX2_toNumber_2 : decode cX2_toNumber 2 = .ok (.iconst 0, 1) := by decide +kernel
theorem dX2_toNumber_3 : decode cX2_toNumber 3 = .ok (.istore 4, 2) := by decide +kernel
theorem dX2_toNumber_5 : decode cX2_toNumber 5 = .ok (.iload 4, 2) := by decide +kernel
theorem dX2_toNumber_7 : decode cX2_toNumber 7 = .ok (.iload_n 2, 1) := by decide +kernel
theorem dX2_toNumber_8 : decode cX2_toNumber 8 = .ok (.if_icmp .ge 30, 3) := by decide +kernel
theorem dX2_toNumber_11 : decode cX2_toNumber 11 = .ok (.iload 4, 2) := by decide +kernel
theorem dX2_toNumber_13 : decode cX2_toNumber 13 = .ok (.iconst 5, 1) := by decide +kernel
theorem dX2_toNumber_14 : decode cX2_toNumber 14 = .ok (.if_icmp .ge 24, 3) := by decide +kernel
theorem dX2_toNumber_17 : decode cX2_toNumber 17 = .ok (.iload_n 3, 1) := by decide +kernel
theorem dX2_toNumber_18 : decode cX2_toNumber 18 = .ok (.bipush 10, 2) := by decide +kernel
theorem dX2_toNumber_20 : decode cX2_toNumber 20 = .ok (.imul, 1) := by decide +kernel
theorem dX2_toNumber_21 : decode cX2_toNumber 21 = .ok (.aload_n 0, 1) := by decide +kernel
theorem dX2_toNumber_22 : decode cX2_toNumber 22 = .ok (.iload_n 1, 1) := by decide +kernel
theorem dX2_toNumber_23 : decode cX2_toNumber 23 = .ok (.iload 4, 2) := by decide +kernel
theorem dX2_toNumber_25 : decode cX2_toNumber 25 = .ok (.invokevirtual 24, 3) := by decide +kernel
theorem dX2_toNumber_28 : decode cX2_toNumber 28 = .ok (.iadd, 1) := by decide +kernel
theorem dX2_toNumber_29 : decode cX2_toNumber 29 = .ok (.iconst 1, 1) := by decide +kernel
theorem dX2_toNumber_30 : decode cX2_toNumber 30 = .ok (.iadd, 1) := by decide +kernel
theorem dX2_toNumber_31 : decode cX2_toNumber 31 = .ok (.istore_n 3, 1) := by decide +kernel
theorem dX2_toNumber_32 : decode cX2_toNumber 32 = .ok (.iinc 4 1, 3) := by decide +kernel
theorem dX2_toNumber_35 : decode cX2_toNumber 35 = .ok (.goto (-30), 3) := by decide +kernel
theorem dX2_toNumber_38 : decode cX2_toNumber 38 = .ok (.iload_n 3, 1) := by decide +kernel
theorem dX2_toNumber_39 : decode cX2_toNumber 39 = .ok (.ireturn, 1) := by decide +kernel
theorem dX3_init_0 : decode cX3_init 0 = .ok (.aload_n 0, 1) := by decide +kernel
theorem dX3_init_1 : decode cX3_init 1 = .ok (.invokespecial 5, 3) := by decide +kernel
theorem dX3_init_4 : decode cX3_init 4 = .ok (.aload_n 0, 1) := by decide +kernel
theorem dX3_init_5 : decode cX3_init 5 = .ok (.aload_n 1, 1) := by decide +kernel
theorem dX3_init_6 : decode cX3_init 6 = .ok (.putfield 11, 3) := by decide +kernel
theorem dX3_init_9 : decode cX3_init 9 = .ok (.aload_n 0, 1) := by decide +kernel
theorem dX3_init_10 : decode cX3_init 10 = .ok (.sipush 960, 3) := by decide +kernel
theorem dX3_init_13 : decode cX3_init 13 = .ok (.newarray .int, 2) := by decide +kernel
theorem dX3_init_15 : decode cX3_init 15 = .ok (.putfield 15, 3) := by decide +kernel
theorem dX3_init_18 : decode cX3_init 18 = .ok (.aload_n 0, 1) := by decide +kernel
theorem dX3_init_19 : decode cX3_init 19 = .ok (.sipush 514, 3) := by decide +kernel
theorem dX3_init_22 : decode cX3_init 22 = .ok (.newarray .long, 2) := by decide +kernel
theorem dX3_init_24 : decode cX3_init 24 = .ok (.putfield 19, 3) := by decide +kernel
theorem dX3_init_27 : decode cX3_init 27 = .ok (.aload_n 0, 1) := by decide +kernel
theorem dX3_init_28 : decode cX3_init 28 = .ok (.new 23, 3) := by decide +kernel
theorem dX3_init_31 : decode cX3_init 31 = .ok (.dup, 1) := by decide +kernel
theorem dX3_init_32 : decode cX3_init 32 = .ok (.bipush 120, 2) := by decide +kernel
theorem dX3_init_34 : decode cX3_init 34 = .ok (.invokespecial 25, 3) := by decide +kernel
theorem dX3_init_37 : decode cX3_init 37 = .ok (.putfield 28, 3) := by decide +kernel
theorem dX3_init_40 : decode cX3_init 40 = .ok (.return_, 1) := by decide +kernel
theorem dX3_study_0 : decode cX3_study 0 = .ok (.aload_n 0, 1) := by decide +kernel
theorem dX3_study_1 : decode cX3_study 1 = .ok (.aload_n 1, 1) := by decide +kernel
theorem dX3_study_2 : decode cX3_study 2 = .ok (.iload_n 2, 1) := by decide +kernel
theorem dX3_study_3 : decode cX3_study 3 = .ok (.invokevirtual 32, 3) := by decide +kernel
theorem dX3_study_6 : decode cX3_study 6 = .ok (.aload_n 0, 1) := by decide +kernel
theorem dX3_study_7 : decode cX3_study 7 = .ok (.iconst 0, 1) := by decide +kernel
theorem dX3_study_8 : decode cX3_study 8 = .ok (.iconst 0, 1) := by decide +kernel
theorem dX3_study_9 : decode cX3_study 9 = .ok (.invokevirtual 36, 3) := by decide +kernel
theorem dX3_study_12 : decode cX3_study 12 = .ok (.iconst 0, 1) := by decide +kernel
theorem dX3_study_13 : decode cX3_study 13 = .ok (.istore_n 3, 1) := by decide +kernel
theorem dX3_study_14 : decode cX3_study 14 = .ok (.iload_n 3, 1) := by decide +kernel
theorem dX3_study_15 : decode cX3_study 15 = .ok (.aload_n 0, 1) := by decide +kernel
theorem dX3_study_16 : decode cX3_study 16 = .ok (.getfield 40, 3) := by decide +kernel
theorem dX3_study_19 : decode cX3_study 19 = .ok (.if_icmp .ge 43, 3) := by decide +kernel
theorem dX3_study_22 : decode cX3_study 22 = .ok (.iconst 0, 1) := by decide +kernel
theorem dX3_study_23 : decode cX3_study 23 = .ok (.istore 4, 2) := by decide +kernel
theorem dX3_study_25 : decode cX3_study 25 = .ok (.iload 4, 2) := by decide +kernel
theorem dX3_study_27 : decode cX3_study 27 = .ok (.aload_n 0, 1) := by decide +kernel
theorem dX3_study_28 : decode cX3_study 28 = .ok (.getfield 44, 3) := by decide +kernel
theorem dX3_study_31 : decode cX3_study 31 = .ok (.if_icmp .ge 25, 3) := by decide +kernel
theorem dX3_study_34 : decode cX3_study 34 = .ok (.iload_n 3, 1) := by decide +kernel
theorem dX3_study_35 : decode cX3_study 35 = .ok (.iload 4, 2) := by decide +kernel
theorem dX3_study_37 : decode cX3_study 37 = .ok (.ishr, 1) := by decide +kernel
theorem dX3_study_38 : decode cX3_study 38 = .ok (.iconst 1, 1) := by decide +kernel
theorem dX3_study_39 : decode cX3_study 39 = .ok (.iand, 1) := by decide +kernel
theorem dX3_study_40 : decode cX3_study 40 = .ok (.ifCond .ne 10, 3) := by decide +kernel
theorem dX3_study_43 : decode cX3_study 43 = .ok (.aload_n 0, 1) := by decide +kernel
theorem dX3_study_44 : decode cX3_study 44 = .ok (.iload_n 3, 1) := by decide +kernel
theorem dX3_study_45 : decode cX3_study 45 = .ok (.iload 4, 2) := by decide +kernel
theorem dX3_study_47 : decode cX3_study 47 = .ok (.invokevirtual 47, 3) := by decide +kernel
theorem dX3_study_50 : decode cX3_study 50 = .ok (.iinc 4 1, 3) := by decide +kernel
theorem dX3_study_53 : decode cX3_study 53 = .ok (.goto (-28), 3) := by decide +kernel
theorem dX3_study_56 : decode cX3_study 56 = .ok (.iinc 3 1, 3) := by decide +kernel
theorem dX3_study_59 : decode cX3_study 59 = .ok (.goto (-45), 3) := by decide +kernel
theorem dX3_study_62 : decode cX3_study 62 = .ok (.return_, 1) := by decide +kernel
theorem dX3_takeHand_0 : decode cX3_takeHand 0 = .ok (.aload_n 0, 1) := by decide +kernel
theorem dX3_takeHand_1 : decode cX3_takeHand 1 = .ok (.getfield 19, 3) := by decide +kernel
theorem dX3_takeHand_4 : decode cX3_takeHand 4 = .ok (.lconst 0, 1) := by decide +kernel
theorem dX3_takeHand_5 : decode cX3_takeHand 5 = .ok (.invokestatic 50, 3) := by decide +kernel
theorem dX3_takeHand_8 : decode cX3_takeHand 8 = .ok (.aload_n 0, 1) := by decide +kernel
theorem dX3_takeHand_9 : decode cX3_takeHand 9 = .ok (.aload_n 1, 1) := by decide +kernel
theorem dX3_takeHand_10 : decode cX3_takeHand 10 = .ok (.getfield 56, 3) := by decide +kernel
theorem dX3_takeHand_13 : decode cX3_takeHand 13 = .ok (.invokevirtual 61, 3) := by decide +kernel
theorem dX3_takeHand_16 : decode cX3_takeHand 16 = .ok (.bipush 8, 2) := by decide +kernel
theorem dX3_takeHand_18 : decode cX3_takeHand 18 = .ok (.invokestatic 65, 3) := by decide +kernel
theorem dX3_takeHand_21 : decode cX3_takeHand 21 = .ok (.putfield 44, 3) := by decide +kernel
theorem dX3_takeHand_24 : decode cX3_takeHand 24 = .ok (.aload_n 0, 1) := by decide +kernel
theorem dX3_takeHand_25 : decode cX3_takeHand 25 = .ok (.iconst 1, 1) := by decide +kernel
theorem dX3_takeHand_26 : decode cX3_takeHand 26 = .ok (.aload_n 0, 1) := by decide +kernel
theorem dX3_takeHand_27 : decode cX3_takeHand 27 = .ok (.getfield 44, 3) := by decide +kernel
theorem dX3_takeHand_30 : decode cX3_takeHand 30 = .ok (.ishl, 1) := by decide +kernel
theorem dX3_takeHand_31 : decode cX3_takeHand 31 = .ok (.putfield 40, 3) := by decide +kernel
theorem dX3_takeHand_34 : decode cX3_takeHand 34 = .ok (.aload_n 0, 1) := by decide +kernel
theorem dX3_takeHand_35 : decode cX3_takeHand 35 = .ok (.getfield 11, 3) := by decide +kernel
theorem dX3_takeHand_38 : decode cX3_takeHand 38 = .ok (.iload_n 2, 1) := by decide +kernel
theorem dX3_takeHand_39 : decode cX3_takeHand 39 = .ok (.invokevirtual 71, 3) := by decide +kernel
theorem dX3_takeHand_42 : decode cX3_takeHand 42 = .ok (.bipush 120, 2) := by decide +kernel
theorem dX3_takeHand_44 : decode cX3_takeHand 44 = .ok (.invokestatic 65, 3) := by decide +kernel
theorem dX3_takeHand_47 : decode cX3_takeHand 47 = .ok (.istore_n 3, 1) := by decide +kernel
theorem dX3_takeHand_48 : decode cX3_takeHand 48 = .ok (.iconst 0, 1) := by decide +kernel
theorem dX3_takeHand_49 : decode cX3_takeHand 49 = .ok (.istore 4, 2) := by decide +kernel
theorem dX3_takeHand_51 : decode cX3_takeHand 51 = .ok (.iload 4, 2) := by decide +kernel
theorem dX3_takeHand_53 : decode cX3_takeHand 53 = .ok (.aload_n 0, 1) := by decide +kernel
theorem dX3_takeHand_54 : decode cX3_takeHand 54 = .ok (.getfield 44, 3) := by decide +kernel
theorem dX3_takeHand_57 : decode cX3_takeHand 57 = .ok (.if_icmp .ge 59, 3) := by decide +kernel
theorem dX3_takeHand_60 : decode cX3_takeHand 60 = .ok (.aload_n 1, 1) := by decide +kernel
theorem dX3_takeHand_61 : decode cX3_takeHand 61 = .ok (.getfield 56, 3) := by decide +kernel
theorem dX3_takeHand_64 : decode cX3_takeHand 64 = .ok (.iload 4, 2) := by decide +kernel
theorem dX3_takeHand_66 : decode cX3_takeHand 66 = .ok (.invokevirtual 77, 3) := by decide +kernel
theorem dX3_takeHand_69 : decode cX3_takeHand 69 = .ok (.istore 5, 2) := by decide +kernel
theorem dX3_takeHand_71 : decode cX3_takeHand 71 = .ok (.iconst 0, 1) := by decide +kernel
theorem dX3_takeHand_72 : decode cX3_takeHand 72 = .ok (.istore 6, 2) := by decide +kernel
theorem dX3_takeHand_74 : decode cX3_takeHand 74 = .ok (.iload 6, 2) := by decide +kernel
theorem dX3_takeHand_76 : decode cX3_takeHand 76 = .ok (.iload_n 3, 1) := by decide +kernel
theorem dX3_takeHand_77 : decode cX3_takeHand 77 = .ok (.if_icmp .ge 33, 3) := by decide +kernel
theorem dX3_takeHand_80 : decode cX3_takeHand 80 = .ok (.aload_n 0, 1) := by decide +kernel
theorem dX3_takeHand_81 : decode cX3_takeHand 81 = .ok (.getfield 15, 3) := by decide +kernel
theorem dX3_takeHand_84 : decode cX3_takeHand 84 = .ok (.iload 4, 2) := by decide +kernel
theorem dX3_takeHand_86 : decode cX3_takeHand 86 = .ok (.bipush 120, 2) := by decide +kernel
theorem dX3_takeHand_88 : decode cX3_takeHand 88 = .ok (.imul, 1) := by decide +kernel
theorem dX3_takeHand_89 : decode cX3_takeHand 89 = .ok (.iload 6, 2) := by decide +kernel
theorem dX3_takeHand_91 : decode cX3_takeHand 91 = .ok (.iadd, 1) := by decide +kernel
theorem dX3_takeHand_92 : decode cX3_takeHand 92 = .ok (.aload_n 0, 1) := by decide +kernel
theorem dX3_takeHand_93 : decode cX3_takeHand 93 = .ok (.getfield 11, 3) := by decide +kernel
theorem dX3_takeHand_96 : decode cX3_takeHand 96 = .ok (.iload 6, 2) := by decide +kernel
theorem dX3_takeHand_98 : decode cX3_takeHand 98 = .ok (.iload 5, 2) := by decide +kernel
theorem dX3_takeHand_100 : decode cX3_takeHand 100 = .ok (.invokevirtual 80, 3) := by decide +kernel
theorem dX3_takeHand_103 : decode cX3_takeHand 103 = .ok (.iastore, 1) := by decide +kernel
theorem dX3_takeHand_104 : decode cX3_takeHand 104 = .ok (.iinc 6 1, 3) := by decide +kernel
theorem dX3_takeHand_107 : decode cX3_takeHand 107 = .ok (.goto (-33), 3) := by decide +kernel
theorem dX3_takeHand_110 : decode cX3_takeHand 110 = .ok (.iinc 4 1, 3) := by decide +kernel
theorem dX3_takeHand_113 : decode cX3_takeHand 113 = .ok (.goto (-62), 3) := by decide +kernel
theorem dX3_takeHand_116 : decode cX3_takeHand 116 = .ok (.return_, 1) := by decide +kernel
theorem dX3_timesCard_0 : decode cX3_timesCard 0 = .ok (.iload_n 1, 1) := by decide +kernel
theorem dX3_timesCard_1 : decode cX3_timesCard 1 = .ok (.ifCond .lt 19, 3) := by decide +kernel
theorem dX3_timesCard_4 : decode cX3_timesCard 4 = .ok (.iload_n 1, 1) := by decide +kernel
theorem dX3_timesCard_5 : decode cX3_timesCard 5 = .ok (.bipush 120, 2) := by decide +kernel
theorem dX3_timesCard_7 : decode cX3_timesCard 7 = .ok (.if_icmp .ge 13, 3) := by decide +kernel
theorem dX3_timesCard_10 : decode cX3_timesCard 10 = .ok (.iload_n 2, 1) := by decide +kernel
theorem dX3_timesCard_11 : decode cX3_timesCard 11 = .ok (.ifCond .lt 9, 3) := by decide +kernel
theorem dX3_timesCard_14 : decode cX3_timesCard 14 = .ok (.iload_n 2, 1) := by decide +kernel
theorem dX3_timesCard_15 : decode cX3_timesCard 15 = .ok (.bipush 8, 2) := by decide +kernel
theorem dX3_timesCard_17 : decode cX3_timesCard 17 = .ok (.if_icmp .lt 5, 3) := by decide +kernel
theorem dX3_timesCard_20 : decode cX3_timesCard 20 = .ok (.iconst 0, 1) := by decide +kernel
theorem dX3_timesCard_21 : decode cX3_timesCard 21 = .ok (.ireturn, 1) := by decide +kernel
theorem dX3_timesCard_22 : decode cX3_timesCard 22 = .ok (.aload_n 0, 1) := by decide +kernel
theorem dX3_timesCard_23 : decode cX3_timesCard 23 = .ok (.getfield 15, 3) := by decide +kernel
theorem dX3_timesCard_26 : decode cX3_timesCard 26 = .ok (.iload_n 2, 1) := by decide +kernel
theorem dX3_timesCard_27 : decode cX3_timesCard 27 = .ok (.bipush 120, 2) := by decide +kernel
theorem dX3_timesCard_29 : decode cX3_timesCard 29 = .ok (.imul, 1) := by decide +kernel
theorem dX3_timesCard_30 : decode cX3_timesCard 30 = .ok (.iload_n 1, 1) := by decide +kernel
theorem dX3_timesCard_31 : decode cX3_timesCard 31 = .ok (.iadd, 1) := by decide +kernel
theorem dX3_timesCard_32 : decode cX3_timesCard 32 = .ok (.iaload, 1) := by decide +kernel
theorem dX3_timesCard_33 : decode cX3_timesCard 33 = .ok (.ireturn, 1) := by decide +kernel
theorem dX3_hasRoomFor_0 : decode cX3_hasRoomFor 0 = .ok (.iload_n 1, 1) := by decide +kernel
theorem dX3_hasRoomFor_1 : decode cX3_hasRoomFor 1 = .ok (.ifCond .lt 24, 3) := by decide +kernel
theorem dX3_hasRoomFor_4 : decode cX3_hasRoomFor 4 = .ok (.iload_n 1, 1) := by decide +kernel
theorem dX3_hasRoomFor_5 : decode cX3_hasRoomFor 5 = .ok (.sipush 256, 3) := by decide +kernel
theorem dX3_hasRoomFor_8 : decode cX3_hasRoomFor 8 = .ok (.if_icmp .gt 17, 3) := by decide +kernel
theorem dX3_hasRoomFor_11 : decode cX3_hasRoomFor 11 = .ok (.iload_n 2, 1) := by decide +kernel
theorem dX3_hasRoomFor_12 : decode cX3_hasRoomFor 12 = .ok (.ifCond .lt 13, 3) := by decide +kernel
theorem dX3_hasRoomFor_15 : decode cX3_hasRoomFor 15 = .ok (.iload_n 2, 1) := by decide +kernel
theorem dX3_hasRoomFor_16 : decode cX3_hasRoomFor 16 = .ok (.bipush 120, 2) := by decide +kernel
theorem dX3_hasRoomFor_18 : decode cX3_hasRoomFor 18 = .ok (.if_icmp .ge 7, 3) := by decide +kernel
theorem dX3_hasRoomFor_21 : decode cX3_hasRoomFor 21 = .ok (.iconst 1, 1) := by decide +kernel
theorem dX3_hasRoomFor_22 : decode cX3_hasRoomFor 22 = .ok (.goto 4, 3) := by decide +kernel
theorem dX3_hasRoomFor_25 : decode cX3_hasRoomFor 25 = .ok (.iconst 0, 1) := by decide +kernel
theorem dX3_hasRoomFor_26 : decode cX3_hasRoomFor 26 = .ok (.ireturn, 1) := by decide +kernel
theorem dX3_include_0 : decode cX3_include 0 = .ok (.aload_n 0, 1) := by decide +kernel
theorem dX3_include_1 : decode cX3_include 1 = .ok (.iload_n 1, 1) := by decide +kernel
theorem dX3_include_2 : decode cX3_include 2 = .ok (.iload_n 2, 1) := by decide +kernel
theorem dX3_include_3 : decode cX3_include 3 = .ok (.invokevirtual 83, 3) := by decide +kernel
theorem dX3_include_6 : decode cX3_include 6 = .ok (.ifCond .eq 25, 3) := by decide +kernel
theorem dX3_include_9 : decode cX3_include 9 = .ok (.aload_n 0, 1) := by decide +kernel
theorem dX3_include_10 : decode cX3_include 10 = .ok (.getfield 19, 3) := by decide +kernel
theorem dX3_include_13 : decode cX3_include 13 = .ok (.iconst 2, 1) := by decide +kernel
theorem dX3_include_14 : decode cX3_include 14 = .ok (.iload_n 1, 1) := by decide +kernel
theorem dX3_include_15 : decode cX3_include 15 = .ok (.imul, 1) := by decide +kernel
theorem dX3_include_16 : decode cX3_include 16 = .ok (.iload_n 2, 1) := by decide +kernel
theorem dX3_include_17 : decode cX3_include 17 = .ok (.bipush 64, 2) := by decide +kernel
theorem dX3_include_19 : decode cX3_include 19 = .ok (.idiv, 1) := by decide +kernel
theorem dX3_include_20 : decode cX3_include 20 = .ok (.iadd, 1) := by decide +kernel
theorem dX3_include_21 : decode cX3_include 21 = .ok (.dup2, 1) := by decide +kernel
theorem dX3_include_22 : decode cX3_include 22 = .ok (.laload, 1) := by decide +kernel
theorem dX3_include_23 : decode cX3_include 23 = .ok (.lconst 1, 1) := by decide +kernel
theorem dX3_include_24 : decode cX3_include 24 = .ok (.iload_n 2, 1) := by decide +kernel
theorem dX3_include_25 : decode cX3_include 25 = .ok (.bipush 64, 2) := by decide +kernel
theorem dX3_include_27 : decode cX3_include 27 = .ok (.irem, 1) := by decide +kernel
theorem dX3_include_28 : decode cX3_include 28 = .ok (.lshl, 1) := by decide +kernel
theorem dX3_include_29 : decode cX3_include 29 = .ok (.lor, 1) := by decide +kernel
theorem dX3_include_30 : decode cX3_include 30 = .ok (.lastore, 1) := by decide +kernel
theorem dX3_include_31 : decode cX3_include 31 = .ok (.return_, 1) := by decide +kernel
theorem dX3_contains_0 : decode cX3_contains 0 = .ok (.aload_n 0, 1) := by decide +kernel
theorem dX3_contains_1 : decode cX3_contains 1 = .ok (.iload_n 1, 1) := by decide +kernel
theorem dX3_contains_2 : decode cX3_contains 2 = .ok (.iload_n 2, 1) := by decide +kernel
theorem dX3_contains_3 : decode cX3_contains 3 = .ok (.invokevirtual 83, 3) := by decide +kernel
theorem dX3_contains_6 : decode cX3_contains 6 = .ok (.ifCond .eq 32, 3) := by decide +kernel
theorem dX3_contains_9 : decode cX3_contains 9 = .ok (.aload_n 0, 1) := by decide +kernel
theorem dX3_contains_10 : decode cX3_contains 10 = .ok (.getfield 19, 3) := by decide +kernel
theorem dX3_contains_13 : decode cX3_contains 13 = .ok (.iconst 2, 1) := by decide +kernel
theorem dX3_contains_14 : decode cX3_contains 14 = .ok (.iload_n 1, 1) := by decide +kernel
theorem dX3_contains_15 : decode cX3_contains 15 = .ok (.imul, 1) := by decide +kernel
theorem dX3_contains_16 : decode cX3_contains 16 = .ok (.iload_n 2, 1) := by decide +kernel
theorem dX3_contains_17 : decode cX3_contains 17 = .ok (.bipush 64, 2) := by decide +kernel
theorem dX3_contains_19 : decode cX3_contains 19 = .ok (.idiv, 1) := by decide +kernel
theorem dX3_contains_20 : decode cX3_contains 20 = .ok (.iadd, 1) := by decide +kernel
theorem dX3_contains_21 : decode cX3_contains 21 = .ok (.laload, 1) := by decide +kernel
theorem dX3_contains_22 : decode cX3_contains 22 = .ok (.iload_n 2, 1) := by decide +kernel
theorem dX3_contains_23 : decode cX3_contains 23 = .ok (.bipush 64, 2) := by decide +kernel
theorem dX3_contains_25 : decode cX3_contains 25 = .ok (.irem, 1) := by decide +kernel
theorem dX3_contains_26 : decode cX3_contains 26 = .ok (.lushr, 1) := by decide +kernel
theorem dX3_contains_27 : decode cX3_contains 27 = .ok (.lconst 1, 1) := by decide +kernel
theorem dX3_contains_28 : decode cX3_contains 28 = .ok (.land, 1) := by decide +kernel
theorem dX3_contains_29 : decode cX3_contains 29 = .ok (.lconst 0, 1) := by decide +kernel
theorem dX3_contains_30 : decode cX3_contains 30 = .ok (.lcmp, 1) := by decide +kernel
theorem dX3_contains_31 : decode cX3_contains 31 = .ok (.ifCond .eq 7, 3) := by decide +kernel
theorem dX3_contains_34 : decode cX3_contains 34 = .ok (.iconst 1, 1) := by decide +kernel
theorem dX3_contains_35 : decode cX3_contains 35 = .ok (.goto 4, 3) := by decide +kernel
theorem dX3_contains_38 : decode cX3_contains 38 = .ok (.iconst 0, 1) := by decide +kernel
theorem dX3_contains_39 : decode cX3_contains 39 = .ok (.ireturn, 1) := by decide +kernel
theorem dX3_extend_0 : decode cX3_extend 0 = .ok (.iload_n 1, 1) := by decide +kernel
theorem dX3_extend_1 : decode cX3_extend 1 = .ok (.ifCond .lt 10, 3) := by decide +kernel
theorem dX3_extend_4 : decode cX3_extend 4 = .ok (.iload_n 1, 1) := by decide +kernel
theorem dX3_extend_5 : decode cX3_extend 5 = .ok (.sipush 256, 3) := by decide +kernel
theorem dX3_extend_8 : decode cX3_extend 8 = .ok (.if_icmp .lt 4, 3) := by decide +kernel
theorem dX3_extend_11 : decode cX3_extend 11 = .ok (.return_, 1) := by decide +kernel
theorem dX3_extend_12 : decode cX3_extend 12 = .ok (.iload_n 1, 1) := by decide +kernel
theorem dX3_extend_13 : decode cX3_extend 13 = .ok (.iconst 1, 1) := by decide +kernel
theorem dX3_extend_14 : decode cX3_extend 14 = .ok (.iload_n 2, 1) := by decide +kernel
theorem dX3_extend_15 : decode cX3_extend 15 = .ok (.ishl, 1) := by decide +kernel
theorem dX3_extend_16 : decode cX3_extend 16 = .ok (.ior, 1) := by decide +kernel
theorem dX3_extend_17 : decode cX3_extend 17 = .ok (.istore_n 3, 1) := by decide +kernel
theorem dX3_extend_18 : decode cX3_extend 18 = .ok (.iconst 0, 1) := by decide +kernel
theorem dX3_extend_19 : decode cX3_extend 19 = .ok (.istore 4, 2) := by decide +kernel
theorem dX3_extend_21 : decode cX3_extend 21 = .ok (.iload 4, 2) := by decide +kernel
theorem dX3_extend_23 : decode cX3_extend 23 = .ok (.iconst 2, 1) := by decide +kernel
theorem dX3_extend_24 : decode cX3_extend 24 = .ok (.if_icmp .ge 83, 3) := by decide +kernel
theorem dX3_extend_27 : decode cX3_extend 27 = .ok (.aload_n 0, 1) := by decide +kernel
theorem dX3_extend_28 : decode cX3_extend 28 = .ok (.getfield 19, 3) := by decide +kernel
theorem dX3_extend_31 : decode cX3_extend 31 = .ok (.iconst 2, 1) := by decide +kernel
theorem dX3_extend_32 : decode cX3_extend 32 = .ok (.iload_n 1, 1) := by decide +kernel
theorem dX3_extend_33 : decode cX3_extend 33 = .ok (.imul, 1) := by decide +kernel
theorem dX3_extend_34 : decode cX3_extend 34 = .ok (.iload 4, 2) := by decide +kernel
theorem dX3_extend_36 : decode cX3_extend 36 = .ok (.iadd, 1) := by decide +kernel
theorem dX3_extend_37 : decode cX3_extend 37 = .ok (.laload, 1) := by decide +kernel
theorem dX3_extend_38 : decode cX3_extend 38 = .ok (.lstore 5, 2) := by decide +kernel
theorem dX3_extend_40 : decode cX3_extend 40 = .ok (.iconst 0, 1) := by decide +kernel
theorem dX3_extend_41 : decode cX3_extend 41 = .ok (.istore 7, 2) := by decide +kernel
theorem dX3_extend_43 : decode cX3_extend 43 = .ok (.iload 7, 2) := by decide +kernel
theorem dX3_extend_45 : decode cX3_extend 45 = .ok (.bipush 64, 2) := by decide +kernel
theorem dX3_extend_47 : decode cX3_extend 47 = .ok (.if_icmp .ge 54, 3) := by decide +kernel
theorem dX3_extend_50 : decode cX3_extend 50 = .ok (.lload 5, 2) := by decide +kernel
theorem dX3_extend_52 : decode cX3_extend 52 = .ok (.lconst 0, 1) := by decide +kernel
theorem dX3_extend_53 : decode cX3_extend 53 = .ok (.lcmp, 1) := by decide +kernel
theorem dX3_extend_54 : decode cX3_extend 54 = .ok (.ifCond .eq 47, 3) := by decide +kernel
theorem dX3_extend_57 : decode cX3_extend 57 = .ok (.lload 5, 2) := by decide +kernel
theorem dX3_extend_59 : decode cX3_extend 59 = .ok (.lload 5, 2) := by decide +kernel
theorem dX3_extend_61 : decode cX3_extend 61 = .ok (.lneg, 1) := by decide +kernel
theorem dX3_extend_62 : decode cX3_extend 62 = .ok (.land, 1) := by decide +kernel
theorem dX3_extend_63 : decode cX3_extend 63 = .ok (.lstore 8, 2) := by decide +kernel
theorem dX3_extend_65 : decode cX3_extend 65 = .ok (.lload 5, 2) := by decide +kernel
theorem dX3_extend_67 : decode cX3_extend 67 = .ok (.lload 8, 2) := by decide +kernel
theorem dX3_extend_69 : decode cX3_extend 69 = .ok (.lxor, 1) := by decide +kernel
theorem dX3_extend_70 : decode cX3_extend 70 = .ok (.lstore 5, 2) := by decide +kernel
theorem dX3_extend_72 : decode cX3_extend 72 = .ok (.aload_n 0, 1) := by decide +kernel
theorem dX3_extend_73 : decode cX3_extend 73 = .ok (.iload_n 3, 1) := by decide +kernel
theorem dX3_extend_74 : decode cX3_extend 74 = .ok (.aload_n 0, 1) := by decide +kernel
theorem dX3_extend_75 : decode cX3_extend 75 = .ok (.iload 4, 2) := by decide +kernel
theorem dX3_extend_77 : decode cX3_extend 77 = .ok (.bipush 64, 2) := by decide +kernel
theorem dX3_extend_79 : decode cX3_extend 79 = .ok (.imul, 1) := by decide +kernel
theorem dX3_extend_80 : decode cX3_extend 80 = .ok (.lload 8, 2) := by decide +kernel
theorem dX3_extend_82 : decode cX3_extend 82 = .ok (.lconst 1, 1) := by decide +kernel
theorem dX3_extend_83 : decode cX3_extend 83 = .ok (.lsub, 1) := by decide +kernel
theorem dX3_extend_84 : decode cX3_extend 84 = .ok (.invokestatic 87, 3) := by decide +kernel
theorem dX3_extend_87 : decode cX3_extend 87 = .ok (.iadd, 1) := by decide +kernel
theorem dX3_extend_88 : decode cX3_extend 88 = .ok (.iload_n 2, 1) := by decide +kernel
theorem dX3_extend_89 : decode cX3_extend 89 = .ok (.invokevirtual 93, 3) := by decide +kernel
theorem dX3_extend_92 : decode cX3_extend 92 = .ok (.invokevirtual 36, 3) := by decide +kernel
theorem dX3_extend_95 : decode cX3_extend 95 = .ok (.iinc 7 1, 3) := by decide +kernel
theorem dX3_extend_98 : decode cX3_extend 98 = .ok (.goto (-55), 3) := by decide +kernel
theorem dX3_extend_101 : decode cX3_extend 101 = .ok (.iinc 4 1, 3) := by decide +kernel
theorem dX3_extend_104 : decode cX3_extend 104 = .ok (.goto (-83), 3) := by decide +kernel
theorem dX3_extend_107 : decode cX3_extend 107 = .ok (.return_, 1) := by decide +kernel
theorem dX3_countReached_0 : decode cX3_countReached 0 = .ok (.iconst 0, 1) := by decide +kernel
theorem dX3_countReached_1 : decode cX3_countReached 1 = .ok (.istore_n 1, 1) := by decide +kernel
theorem dX3_countReached_2 : decode cX3_countReached 2 = .ok (.iconst 0, 1) := by decide +kernel
theorem dX3_countReached_3 : decode cX3_countReached 3 = .ok (.istore_n 2, 1) := by decide +kernel
theorem dX3_countReached_4 : decode cX3_countReached 4 = .ok (.iload_n 2, 1) := by decide +kernel
theorem dX3_countReached_5 : decode cX3_countReached 5 = .ok (.bipush 120, 2) := by decide +kernel
theorem dX3_countReached_7 : decode cX3_countReached 7 = .ok (.if_icmp .ge 25, 3) := by decide +kernel
theorem dX3_countReached_10 : decode cX3_countReached 10 = .ok (.iload_n 1, 1) := by decide +kernel
theorem dX3_countReached_11 : decode cX3_countReached 11 = .ok (.aload_n 0, 1) := by decide +kernel
theorem dX3_countReached_12 : decode cX3_countReached 12 = .ok (.iload_n 2, 1) := by decide +kernel
theorem dX3_countReached_13 : decode cX3_countReached 13 = .ok (.invokevirtual 96, 3) := by decide +kernel
theorem dX3_countReached_16 : decode cX3_countReached 16 = .ok (.ifCond .eq 7, 3) := by decide +kernel
theorem dX3_countReached_19 : decode cX3_countReached 19 = .ok (.iconst 1, 1) := by decide +kernel
theorem dX3_countReached_20 : decode cX3_countReached 20 = .ok (.goto 4, 3) := by decide +kernel
theorem dX3_countReached_23 : decode cX3_countReached 23 = .ok (.iconst 0, 1) := by decide +kernel
theorem dX3_countReached_24 : decode cX3_countReached 24 = .ok (.iadd, 1) := by decide +kernel
theorem dX3_countReached_25 : decode cX3_countReached 25 = .ok (.istore_n 1, 1) := by decide +kernel
theorem dX3_countReached_26 : decode cX3_countReached 26 = .ok (.iinc 2 1, 3) := by decide +kernel
theorem dX3_countReached_29 : decode cX3_countReached 29 = .ok (.goto (-25), 3) := by decide +kernel
theorem dX3_countReached_32 : decode cX3_countReached 32 = .ok (.iload_n 1, 1) := by decide +kernel
theorem dX3_countReached_33 : decode cX3_countReached 33 = .ok (.ireturn, 1) := by decide +kernel
theorem dX3_isReached_0 : decode cX3_isReached 0 = .ok (.iconst 1, 1) := by decide +kernel
theorem dX3_isReached_1 : decode cX3_isReached 1 = .ok (.istore_n 2, 1) := by decide +kernel
theorem dX3_isReached_2 : decode cX3_isReached 2 = .ok (.iload_n 2, 1) := by decide +kernel
theorem dX3_isReached_3 : decode cX3_isReached 3 = .ok (.aload_n 0, 1) := by decide +kernel
theorem dX3_isReached_4 : decode cX3_isReached 4 = .ok (.getfield 40, 3) := by decide +kernel
theorem dX3_isReached_7 : decode cX3_isReached 7 = .ok (.if_icmp .ge 20, 3) := by decide +kernel
theorem dX3_isReached_10 : decode cX3_isReached 10 = .ok (.aload_n 0, 1) := by decide +kernel
theorem dX3_isReached_11 : decode cX3_isReached 11 = .ok (.iload_n 2, 1) := by decide +kernel
theorem dX3_isReached_12 : decode cX3_isReached 12 = .ok (.iload_n 1, 1) := by decide +kernel
theorem dX3_isReached_13 : decode cX3_isReached 13 = .ok (.invokevirtual 100, 3) := by decide +kernel
theorem dX3_isReached_16 : decode cX3_isReached 16 = .ok (.ifCond .eq 5, 3) := by decide +kernel
theorem dX3_isReached_19 : decode cX3_isReached 19 = .ok (.iconst 1, 1) := by decide +kernel
theorem dX3_isReached_20 : decode cX3_isReached 20 = .ok (.ireturn, 1) := by decide +kernel
theorem dX3_isReached_21 : decode cX3_isReached 21 = .ok (.iinc 2 1, 3) := by decide +kernel
theorem dX3_isReached_24 : decode cX3_isReached 24 = .ok (.goto (-22), 3) := by decide +kernel
theorem dX3_isReached_27 : decode cX3_isReached 27 = .ok (.iconst 0, 1) := by decide +kernel
theorem dX3_isReached_28 : decode cX3_isReached 28 = .ok (.ireturn, 1) := by decide +kernel
theorem dX3_countGenerated_0 : decode cX3_countGenerated 0 = .ok (.aload_n 0, 1) := by decide +kernel
theorem dX3_countGenerated_1 : decode cX3_countGenerated 1 = .ok (.aload_n 1, 1) := by decide +kernel
theorem dX3_countGenerated_2 : decode cX3_countGenerated 2 = .ok (.iload_n 2, 1) := by decide +kernel
theorem dX3_countGenerated_3 : decode cX3_countGenerated 3 = .ok (.invokevirtual 32, 3) := by decide +kernel
theorem dX3_countGenerated_6 : decode cX3_countGenerated 6 = .ok (.aload_n 0, 1) := by decide +kernel
theorem dX3_countGenerated_7 : decode cX3_countGenerated 7 = .ok (.getfield 28, 3) := by decide +kernel
theorem dX3_countGenerated_10 : decode cX3_countGenerated 10 = .ok (.invokevirtual 103, 3) := by decide +kernel
theorem dX3_countGenerated_13 : decode cX3_countGenerated 13 = .ok (.aload_n 0, 1) := by decide +kernel
theorem dX3_countGenerated_14 : decode cX3_countGenerated 14 = .ok (.iconst 0, 1) := by decide +kernel
theorem dX3_countGenerated_15 : decode cX3_countGenerated 15 = .ok (.invokevirtual 106, 3) := by decide +kernel
theorem dX3_countGenerated_18 : decode cX3_countGenerated 18 = .ok (.iconst 0, 1) := by decide +kernel
theorem dX3_countGenerated_19 : decode cX3_countGenerated 19 = .ok (.istore_n 3, 1) := by decide +kernel
theorem dX3_countGenerated_20 : decode cX3_countGenerated 20 = .ok (.iload_n 3, 1) := by decide +kernel
theorem dX3_countGenerated_21 : decode cX3_countGenerated 21 = .ok (.bipush 120, 2) := by decide +kernel
theorem dX3_countGenerated_23 : decode cX3_countGenerated 23 = .ok (.if_icmp .ge 56, 3) := by decide +kernel
theorem dX3_countGenerated_26 : decode cX3_countGenerated 26 = .ok (.iload_n 3, 1) := by decide +kernel
theorem dX3_countGenerated_27 : decode cX3_countGenerated 27 = .ok (.aload_n 0, 1) := by decide +kernel
theorem dX3_countGenerated_28 : decode cX3_countGenerated 28 = .ok (.getfield 28, 3) := by decide +kernel
theorem dX3_countGenerated_31 : decode cX3_countGenerated 31 = .ok (.invokevirtual 61, 3) := by decide +kernel
theorem dX3_countGenerated_34 : decode cX3_countGenerated 34 = .ok (.if_icmp .ge 45, 3) := by decide +kernel
theorem dX3_countGenerated_37 : decode cX3_countGenerated 37 = .ok (.iconst 0, 1) := by decide +kernel
theorem dX3_countGenerated_38 : decode cX3_countGenerated 38 = .ok (.istore 4, 2) := by decide +kernel
theorem dX3_countGenerated_40 : decode cX3_countGenerated 40 = .ok (.iload 4, 2) := by decide +kernel
theorem dX3_countGenerated_42 : decode cX3_countGenerated 42 = .ok (.aload_n 0, 1) := by decide +kernel
theorem dX3_countGenerated_43 : decode cX3_countGenerated 43 = .ok (.getfield 44, 3) := by decide +kernel
theorem dX3_countGenerated_46 : decode cX3_countGenerated 46 = .ok (.if_icmp .ge 27, 3) := by decide +kernel
theorem dX3_countGenerated_49 : decode cX3_countGenerated 49 = .ok (.aload_n 0, 1) := by decide +kernel
theorem dX3_countGenerated_50 : decode cX3_countGenerated 50 = .ok (.aload_n 0, 1) := by decide +kernel
theorem dX3_countGenerated_51 : decode cX3_countGenerated 51 = .ok (.aload_n 0, 1) := by decide +kernel
theorem dX3_countGenerated_52 : decode cX3_countGenerated 52 = .ok (.getfield 28, 3) := by decide +kernel
theorem dX3_countGenerated_55 : decode cX3_countGenerated 55 = .ok (.iload_n 3, 1) := by decide +kernel
theorem dX3_countGenerated_56 : decode cX3_countGenerated 56 = .ok (.invokevirtual 77, 3) := by decide +kernel
theorem dX3_countGenerated_59 : decode cX3_countGenerated 59 = .ok (.iload 4, 2) := by decide +kernel
theorem dX3_countGenerated_61 : decode cX3_countGenerated 61 = .ok (.invokevirtual 93, 3) := by decide +kernel
theorem dX3_countGenerated_64 : decode cX3_countGenerated 64 = .ok (.invokevirtual 106, 3) := by decide +kernel
theorem dX3_countGenerated_67 : decode cX3_countGenerated 67 = .ok (.iinc 4 1, 3) := by decide +kernel
theorem dX3_countGenerated_70 : decode cX3_countGenerated 70 = .ok (.goto (-30), 3) := by decide +kernel
theorem dX3_countGenerated_73 : decode cX3_countGenerated 73 = .ok (.iinc 3 1, 3) := by decide +kernel
theorem dX3_countGenerated_76 : decode cX3_countGenerated 76 = .ok (.goto (-56), 3) := by decide +kernel
theorem dX3_countGenerated_79 : decode cX3_countGenerated 79 = .ok (.aload_n 0, 1) := by decide +kernel
theorem dX3_countGenerated_80 : decode cX3_countGenerated 80 = .ok (.getfield 28, 3) := by decide +kernel
theorem dX3_countGenerated_83 : decode cX3_countGenerated 83 = .ok (.invokevirtual 61, 3) := by decide +kernel
theorem dX3_countGenerated_86 : decode cX3_countGenerated 86 = .ok (.ireturn, 1) := by decide +kernel
theorem dX3_find_0 : decode cX3_find 0 = .ok (.aload_n 0, 1) := by decide +kernel
theorem dX3_find_1 : decode cX3_find 1 = .ok (.sipush 256, 3) := by decide +kernel
theorem dX3_find_4 : decode cX3_find 4 = .ok (.iload_n 1, 1) := by decide +kernel
theorem dX3_find_5 : decode cX3_find 5 = .ok (.invokevirtual 100, 3) := by decide +kernel
theorem dX3_find_8 : decode cX3_find 8 = .ok (.ifCond .ne 19, 3) := by decide +kernel
theorem dX3_find_11 : decode cX3_find 11 = .ok (.aload_n 0, 1) := by decide +kernel
theorem dX3_find_12 : decode cX3_find 12 = .ok (.sipush 256, 3) := by decide +kernel
theorem dX3_find_15 : decode cX3_find 15 = .ok (.iload_n 1, 1) := by decide +kernel
theorem dX3_find_16 : decode cX3_find 16 = .ok (.invokevirtual 36, 3) := by decide +kernel
theorem dX3_find_19 : decode cX3_find 19 = .ok (.aload_n 0, 1) := by decide +kernel
theorem dX3_find_20 : decode cX3_find 20 = .ok (.getfield 28, 3) := by decide +kernel
theorem dX3_find_23 : decode cX3_find 23 = .ok (.iload_n 1, 1) := by decide +kernel
theorem dX3_find_24 : decode cX3_find 24 = .ok (.invokevirtual 109, 3) := by decide +kernel
theorem dX3_find_27 : decode cX3_find 27 = .ok (.return_, 1) := by decide +kernel
theorem dX3_fewestCardsFor_0 : decode cX3_fewestCardsFor 0 = .ok (.iconst (-1), 1) := by decide +kernel
theorem dX3_fewestCardsFor_1 : decode cX3_fewestCardsFor 1 = .ok (.istore_n 2, 1) := by decide +kernel
theorem dX3_fewestCardsFor_2 : decode cX3_fewestCardsFor 2 = .ok (.iconst 1, 1) := by decide +kernel
theorem dX3_fewestCardsFor_3 : decode cX3_fewestCardsFor 3 = .ok (.istore_n 3, 1) := by decide +kernel
theorem dX3_fewestCardsFor_4 : decode cX3_fewestCardsFor 4 = .ok (.iload_n 3, 1) := by decide +kernel
theorem dX3_fewestCardsFor_5 : decode cX3_fewestCardsFor 5 = .ok (.aload_n 0, 1) := by decide +kernel
theorem dX3_fewestCardsFor_6 : decode cX3_fewestCardsFor 6 = .ok (.getfield 40, 3) := by decide +kernel
theorem dX3_fewestCardsFor_9 : decode cX3_fewestCardsFor 9 = .ok (.if_icmp .ge 38, 3) := by decide +kernel
theorem dX3_fewestCardsFor_12 : decode cX3_fewestCardsFor 12 = .ok (.iload_n 3, 1) := by decide +kernel
theorem dX3_fewestCardsFor_13 : decode cX3_fewestCardsFor 13 = .ok (.invokestatic 112, 3) := by decide +kernel
theorem dX3_fewestCardsFor_16 : decode cX3_fewestCardsFor 16 = .ok (.istore 4, 2) := by decide +kernel
theorem dX3_fewestCardsFor_18 : decode cX3_fewestCardsFor 18 = .ok (.aload_n 0, 1) := by decide +kernel
theorem dX3_fewestCardsFor_19 : decode cX3_fewestCardsFor 19 = .ok (.iload_n 3, 1) := by decide +kernel
theorem dX3_fewestCardsFor_20 : decode cX3_fewestCardsFor 20 = .ok (.iload_n 1, 1) := by decide +kernel
theorem dX3_fewestCardsFor_21 : decode cX3_fewestCardsFor 21 = .ok (.invokevirtual 100, 3) := by decide +kernel
theorem dX3_fewestCardsFor_24 : decode cX3_fewestCardsFor 24 = .ok (.ifCond .eq 17, 3) := by decide +kernel
theorem dX3_fewestCardsFor_27 : decode cX3_fewestCardsFor 27 = .ok (.iload_n 2, 1) := by decide +kernel
theorem dX3_fewestCardsFor_28 : decode cX3_fewestCardsFor 28 = .ok (.iconst (-1), 1) := by decide +kernel
theorem dX3_fewestCardsFor_29 : decode cX3_fewestCardsFor 29 = .ok (.if_icmp .eq 9, 3) := by decide +kernel
theorem dX3_fewestCardsFor_32 : decode cX3_fewestCardsFor 32 = .ok (.iload 4, 2) := by decide +kernel
theorem dX3_fewestCardsFor_34 : decode cX3_fewestCardsFor 34 = .ok (.iload_n 2, 1) := by decide +kernel
theorem dX3_fewestCardsFor_35 : decode cX3_fewestCardsFor 35 = .ok (.if_icmp .ge 6, 3) := by decide +kernel
theorem dX3_fewestCardsFor_38 : decode cX3_fewestCardsFor 38 = .ok (.iload 4, 2) := by decide +kernel
theorem dX3_fewestCardsFor_40 : decode cX3_fewestCardsFor 40 = .ok (.istore_n 2, 1) := by decide +kernel
theorem dX3_fewestCardsFor_41 : decode cX3_fewestCardsFor 41 = .ok (.iinc 3 1, 3) := by decide +kernel
theorem dX3_fewestCardsFor_44 : decode cX3_fewestCardsFor 44 = .ok (.goto (-40), 3) := by decide +kernel
theorem dX3_fewestCardsFor_47 : decode cX3_fewestCardsFor 47 = .ok (.iload_n 2, 1) := by decide +kernel
theorem dX3_fewestCardsFor_48 : decode cX3_fewestCardsFor 48 = .ok (.ireturn, 1) := by decide +kernel
theorem dX3_smallestSumFor_0 : decode cX3_smallestSumFor 0 = .ok (.iconst (-1), 1) := by decide +kernel
theorem dX3_smallestSumFor_1 : decode cX3_smallestSumFor 1 = .ok (.istore_n 3, 1) := by decide +kernel
theorem dX3_smallestSumFor_2 : decode cX3_smallestSumFor 2 = .ok (.iconst 1, 1) := by decide +kernel
theorem dX3_smallestSumFor_3 : decode cX3_smallestSumFor 3 = .ok (.istore 4, 2) := by decide +kernel
theorem dX3_smallestSumFor_5 : decode cX3_smallestSumFor 5 = .ok (.iload 4, 2) := by decide +kernel
theorem dX3_smallestSumFor_7 : decode cX3_smallestSumFor 7 = .ok (.aload_n 0, 1) := by decide +kernel
theorem dX3_smallestSumFor_8 : decode cX3_smallestSumFor 8 = .ok (.getfield 40, 3) := by decide +kernel
theorem dX3_smallestSumFor_11 : decode cX3_smallestSumFor 11 = .ok (.if_icmp .ge 45, 3) := by decide +kernel
theorem dX3_smallestSumFor_14 : decode cX3_smallestSumFor 14 = .ok (.aload_n 0, 1) := by decide +kernel
theorem dX3_smallestSumFor_15 : decode cX3_smallestSumFor 15 = .ok (.iload 4, 2) := by decide +kernel
theorem dX3_smallestSumFor_17 : decode cX3_smallestSumFor 17 = .ok (.iload_n 1, 1) := by decide +kernel
theorem dX3_smallestSumFor_18 : decode cX3_smallestSumFor 18 = .ok (.invokevirtual 100, 3) := by decide +kernel
theorem dX3_smallestSumFor_21 : decode cX3_smallestSumFor 21 = .ok (.ifCond .eq 29, 3) := by decide +kernel
theorem dX3_smallestSumFor_24 : decode cX3_smallestSumFor 24 = .ok (.aload_n 0, 1) := by decide +kernel
theorem dX3_smallestSumFor_25 : decode cX3_smallestSumFor 25 = .ok (.iload 4, 2) := by decide +kernel
theorem dX3_smallestSumFor_27 : decode cX3_smallestSumFor 27 = .ok (.aload_n 2, 1) := by decide +kernel
theorem dX3_smallestSumFor_28 : decode cX3_smallestSumFor 28 = .ok (.invokevirtual 116, 3) := by decide +kernel
theorem dX3_smallestSumFor_31 : decode cX3_smallestSumFor 31 = .ok (.istore 5, 2) := by decide +kernel
theorem dX3_smallestSumFor_33 : decode cX3_smallestSumFor 33 = .ok (.iload_n 3, 1) := by decide +kernel
theorem dX3_smallestSumFor_34 : decode cX3_smallestSumFor 34 = .ok (.iconst (-1), 1) := by decide +kernel
theorem dX3_smallestSumFor_35 : decode cX3_smallestSumFor 35 = .ok (.if_icmp .ne 8, 3) := by decide +kernel
theorem dX3_smallestSumFor_38 : decode cX3_smallestSumFor 38 = .ok (.iload 5, 2) := by decide +kernel
theorem dX3_smallestSumFor_40 : decode cX3_smallestSumFor 40 = .ok (.goto 9, 3) := by decide +kernel
theorem dX3_smallestSumFor_43 : decode cX3_smallestSumFor 43 = .ok (.iload_n 3, 1) := by decide +kernel
theorem dX3_smallestSumFor_44 : decode cX3_smallestSumFor 44 = .ok (.iload 5, 2) := by decide +kernel
theorem dX3_smallestSumFor_46 : decode cX3_smallestSumFor 46 = .ok (.invokestatic 65, 3) := by decide +kernel
theorem dX3_smallestSumFor_49 : decode cX3_smallestSumFor 49 = .ok (.istore_n 3, 1) := by decide +kernel
theorem dX3_smallestSumFor_50 : decode cX3_smallestSumFor 50 = .ok (.iinc 4 1, 3) := by decide +kernel
theorem dX3_smallestSumFor_53 : decode cX3_smallestSumFor 53 = .ok (.goto (-48), 3) := by decide +kernel
theorem dX3_smallestSumFor_56 : decode cX3_smallestSumFor 56 = .ok (.iload_n 3, 1) := by decide +kernel
theorem dX3_smallestSumFor_57 : decode cX3_smallestSumFor 57 = .ok (.ireturn, 1) := by decide +kernel
theorem dX3_sumOf_0 : decode cX3_sumOf 0 = .ok (.iconst 0, 1) := by decide +kernel
theorem dX3_sumOf_1 : decode cX3_sumOf 1 = .ok (.istore_n 3, 1) := by decide +kernel
theorem dX3_sumOf_2 : decode cX3_sumOf 2 = .ok (.iconst 0, 1) := by decide +kernel
theorem dX3_sumOf_3 : decode cX3_sumOf 3 = .ok (.istore 4, 2) := by decide +kernel
theorem dX3_sumOf_5 : decode cX3_sumOf 5 = .ok (.iload 4, 2) := by decide +kernel
theorem dX3_sumOf_7 : decode cX3_sumOf 7 = .ok (.aload_n 0, 1) := by decide +kernel
theorem dX3_sumOf_8 : decode cX3_sumOf 8 = .ok (.getfield 44, 3) := by decide +kernel
theorem dX3_sumOf_11 : decode cX3_sumOf 11 = .ok (.if_icmp .ge 31, 3) := by decide +kernel
theorem dX3_sumOf_14 : decode cX3_sumOf 14 = .ok (.iload_n 3, 1) := by decide +kernel
theorem dX3_sumOf_15 : decode cX3_sumOf 15 = .ok (.iload_n 1, 1) := by decide +kernel
theorem dX3_sumOf_16 : decode cX3_sumOf 16 = .ok (.iload 4, 2) := by decide +kernel
theorem dX3_sumOf_18 : decode cX3_sumOf 18 = .ok (.ishr, 1) := by decide +kernel
theorem dX3_sumOf_19 : decode cX3_sumOf 19 = .ok (.iconst 1, 1) := by decide +kernel
theorem dX3_sumOf_20 : decode cX3_sumOf 20 = .ok (.iand, 1) := by decide +kernel
theorem dX3_sumOf_21 : decode cX3_sumOf 21 = .ok (.ifCond .eq 12, 3) := by decide +kernel
theorem dX3_sumOf_24 : decode cX3_sumOf 24 = .ok (.aload_n 2, 1) := by decide +kernel
theorem dX3_sumOf_25 : decode cX3_sumOf 25 = .ok (.iload 4, 2) := by decide +kernel
theorem dX3_sumOf_27 : decode cX3_sumOf 27 = .ok (.invokevirtual 77, 3) := by decide +kernel
theorem dX3_sumOf_30 : decode cX3_sumOf 30 = .ok (.goto 4, 3) := by decide +kernel
theorem dX3_sumOf_33 : decode cX3_sumOf 33 = .ok (.iconst 0, 1) := by decide +kernel
theorem dX3_sumOf_34 : decode cX3_sumOf 34 = .ok (.iadd, 1) := by decide +kernel
theorem dX3_sumOf_35 : decode cX3_sumOf 35 = .ok (.istore_n 3, 1) := by decide +kernel
theorem dX3_sumOf_36 : decode cX3_sumOf 36 = .ok (.iinc 4 1, 3) := by decide +kernel
theorem dX3_sumOf_39 : decode cX3_sumOf 39 = .ok (.goto (-34), 3) := by decide +kernel
theorem dX3_sumOf_42 : decode cX3_sumOf 42 = .ok (.iload_n 3, 1) := by decide +kernel
theorem dX3_sumOf_43 : decode cX3_sumOf 43 = .ok (.ireturn, 1) := by decide +kernel
theorem dX3_firstCardFor_0 : decode cX3_firstCardFor 0 = .ok (.aload_n 0, 1) := by decide +kernel
theorem dX3_firstCardFor_1 : decode cX3_firstCardFor 1 = .ok (.iload_n 1, 1) := by decide +kernel
theorem dX3_firstCardFor_2 : decode cX3_firstCardFor 2 = .ok (.invokevirtual 120, 3) := by decide +kernel
theorem dX3_firstCardFor_5 : decode cX3_firstCardFor 5 = .ok (.istore_n 3, 1) := by decide +kernel
theorem dX3_firstCardFor_6 : decode cX3_firstCardFor 6 = .ok (.iconst 0, 1) := by decide +kernel
theorem dX3_firstCardFor_7 : decode cX3_firstCardFor 7 = .ok (.istore 4, 2) := by decide +kernel
theorem dX3_firstCardFor_9 : decode cX3_firstCardFor 9 = .ok (.iload 4, 2) := by decide +kernel
theorem dX3_firstCardFor_11 : decode cX3_firstCardFor 11 = .ok (.aload_n 0, 1) := by decide +kernel
theorem dX3_firstCardFor_12 : decode cX3_firstCardFor 12 = .ok (.getfield 44, 3) := by decide +kernel
theorem dX3_firstCardFor_15 : decode cX3_firstCardFor 15 = .ok (.if_icmp .ge 105, 3) := by decide +kernel
theorem dX3_firstCardFor_18 : decode cX3_firstCardFor 18 = .ok (.iload_n 3, 1) := by decide +kernel
theorem dX3_firstCardFor_19 : decode cX3_firstCardFor 19 = .ok (.iconst (-1), 1) := by decide +kernel
theorem dX3_firstCardFor_20 : decode cX3_firstCardFor 20 = .ok (.if_icmp .eq 100, 3) := by decide +kernel
theorem dX3_firstCardFor_23 : decode cX3_firstCardFor 23 = .ok (.aload_n 0, 1) := by decide +kernel
theorem dX3_firstCardFor_24 : decode cX3_firstCardFor 24 = .ok (.getfield 11, 3) := by decide +kernel
theorem dX3_firstCardFor_27 : decode cX3_firstCardFor 27 = .ok (.aload_n 0, 1) := by decide +kernel
theorem dX3_firstCardFor_28 : decode cX3_firstCardFor 28 = .ok (.getfield 11, 3) := by decide +kernel
theorem dX3_firstCardFor_31 : decode cX3_firstCardFor 31 = .ok (.aload_n 2, 1) := by decide +kernel
theorem dX3_firstCardFor_32 : decode cX3_firstCardFor 32 = .ok (.iload 4, 2) := by decide +kernel
theorem dX3_firstCardFor_34 : decode cX3_firstCardFor 34 = .ok (.invokevirtual 77, 3) := by decide +kernel
theorem dX3_firstCardFor_37 : decode cX3_firstCardFor 37 = .ok (.invokevirtual 123, 3) := by decide +kernel
theorem dX3_firstCardFor_40 : decode cX3_firstCardFor 40 = .ok (.iload_n 1, 1) := by decide +kernel
theorem dX3_firstCardFor_41 : decode cX3_firstCardFor 41 = .ok (.invokevirtual 80, 3) := by decide +kernel
theorem dX3_firstCardFor_44 : decode cX3_firstCardFor 44 = .ok (.istore 5, 2) := by decide +kernel
theorem dX3_firstCardFor_46 : decode cX3_firstCardFor 46 = .ok (.iconst 1, 1) := by decide +kernel
theorem dX3_firstCardFor_47 : decode cX3_firstCardFor 47 = .ok (.istore 6, 2) := by decide +kernel
theorem dX3_firstCardFor_49 : decode cX3_firstCardFor 49 = .ok (.iload 6, 2) := by decide +kernel
theorem dX3_firstCardFor_51 : decode cX3_firstCardFor 51 = .ok (.aload_n 0, 1) := by decide +kernel
theorem dX3_firstCardFor_52 : decode cX3_firstCardFor 52 = .ok (.getfield 40, 3) := by decide +kernel
theorem dX3_firstCardFor_55 : decode cX3_firstCardFor 55 = .ok (.if_icmp .ge 59, 3) := by decide +kernel
theorem dX3_firstCardFor_58 : decode cX3_firstCardFor 58 = .ok (.iload 6, 2) := by decide +kernel
theorem dX3_firstCardFor_60 : decode cX3_firstCardFor 60 = .ok (.invokestatic 112, 3) := by decide +kernel
theorem dX3_firstCardFor_63 : decode cX3_firstCardFor 63 = .ok (.iload_n 3, 1) := by decide +kernel
theorem dX3_firstCardFor_64 : decode cX3_firstCardFor 64 = .ok (.if_icmp .ne 17, 3) := by decide +kernel
theorem dX3_firstCardFor_67 : decode cX3_firstCardFor 67 = .ok (.iload 6, 2) := by decide +kernel
theorem dX3_firstCardFor_69 : decode cX3_firstCardFor 69 = .ok (.iload 4, 2) := by decide +kernel
theorem dX3_firstCardFor_71 : decode cX3_firstCardFor 71 = .ok (.ishr, 1) := by decide +kernel
theorem dX3_firstCardFor_72 : decode cX3_firstCardFor 72 = .ok (.iconst 1, 1) := by decide +kernel
theorem dX3_firstCardFor_73 : decode cX3_firstCardFor 73 = .ok (.iand, 1) := by decide +kernel
theorem dX3_firstCardFor_74 : decode cX3_firstCardFor 74 = .ok (.ifCond .eq 7, 3) := by decide +kernel
theorem dX3_firstCardFor_77 : decode cX3_firstCardFor 77 = .ok (.iconst 1, 1) := by decide +kernel
theorem dX3_firstCardFor_78 : decode cX3_firstCardFor 78 = .ok (.goto 4, 3) := by decide +kernel
theorem dX3_firstCardFor_81 : decode cX3_firstCardFor 81 = .ok (.iconst 0, 1) := by decide +kernel
theorem dX3_firstCardFor_82 : decode cX3_firstCardFor 82 = .ok (.istore 7, 2) := by decide +kernel
theorem dX3_firstCardFor_84 : decode cX3_firstCardFor 84 = .ok (.iload 7, 2) := by decide +kernel
theorem dX3_firstCardFor_86 : decode cX3_firstCardFor 86 = .ok (.ifCond .eq 22, 3) := by decide +kernel
theorem dX3_firstCardFor_89 : decode cX3_firstCardFor 89 = .ok (.aload_n 0, 1) := by decide +kernel
theorem dX3_firstCardFor_90 : decode cX3_firstCardFor 90 = .ok (.iload 6, 2) := by decide +kernel
theorem dX3_firstCardFor_92 : decode cX3_firstCardFor 92 = .ok (.iconst 1, 1) := by decide +kernel
theorem dX3_firstCardFor_93 : decode cX3_firstCardFor 93 = .ok (.iload 4, 2) := by decide +kernel
theorem dX3_firstCardFor_95 : decode cX3_firstCardFor 95 = .ok (.ishl, 1) := by decide +kernel
theorem dX3_firstCardFor_96 : decode cX3_firstCardFor 96 = .ok (.ixor, 1) := by decide +kernel
theorem dX3_firstCardFor_97 : decode cX3_firstCardFor 97 = .ok (.iload 5, 2) := by decide +kernel
theorem dX3_firstCardFor_99 : decode cX3_firstCardFor 99 = .ok (.invokevirtual 100, 3) := by decide +kernel
theorem dX3_firstCardFor_102 : decode cX3_firstCardFor 102 = .ok (.ifCond .eq 6, 3) := by decide +kernel
theorem dX3_firstCardFor_105 : decode cX3_firstCardFor 105 = .ok (.iload 4, 2) := by decide +kernel
theorem dX3_firstCardFor_107 : decode cX3_firstCardFor 107 = .ok (.ireturn, 1) := by decide +kernel
theorem dX3_firstCardFor_108 : decode cX3_firstCardFor 108 = .ok (.iinc 6 1, 3) := by decide +kernel
theorem dX3_firstCardFor_111 : decode cX3_firstCardFor 111 = .ok (.goto (-62), 3) := by decide +kernel
theorem dX3_firstCardFor_114 : decode cX3_firstCardFor 114 = .ok (.iinc 4 1, 3) := by decide +kernel
theorem dX3_firstCardFor_117 : decode cX3_firstCardFor 117 = .ok (.goto (-108), 3) := by decide +kernel
theorem dX3_firstCardFor_120 : decode cX3_firstCardFor 120 = .ok (.iconst (-1), 1) := by decide +kernel
theorem dX3_firstCardFor_121 : decode cX3_firstCardFor 121 = .ok (.ireturn, 1) := by decide +kernel
theorem dX4_init_0 : decode cX4_init 0 = .ok (.aload_n 0, 1) := by decide +kernel
theorem dX4_init_1 : decode cX4_init 1 = .ok (.invokespecial 3, 3) := by decide +kernel
theorem dX4_init_4 : decode cX4_init 4 = .ok (.aload_n 0, 1) := by decide +kernel
theorem dX4_init_5 : decode cX4_init 5 = .ok (.bipush 8, 2) := by decide +kernel
theorem dX4_init_7 : decode cX4_init 7 = .ok (.anewarray 9, 3) := by decide +kernel
theorem dX4_init_10 : decode cX4_init 10 = .ok (.putfield 11, 3) := by decide +kernel
theorem dX4_init_13 : decode cX4_init 13 = .ok (.iconst 0, 1) := by decide +kernel
theorem dX4_init_14 : decode cX4_init 14 = .ok (.istore_n 2, 1) := by decide +kernel
theorem dX4_init_15 : decode cX4_init 15 = .ok (.iload_n 2, 1) := by decide +kernel
theorem dX4_init_16 : decode cX4_init 16 = .ok (.bipush 8, 2) := by decide +kernel
theorem dX4_init_18 : decode cX4_init 18 = .ok (.if_icmp .ge 23, 3) := by decide +kernel
theorem dX4_init_21 : decode cX4_init 21 = .ok (.aload_n 0, 1) := by decide +kernel
theorem dX4_init_22 : decode cX4_init 22 = .ok (.getfield 11, 3) := by decide +kernel
theorem dX4_init_25 : decode cX4_init 25 = .ok (.iload_n 2, 1) := by decide +kernel
theorem dX4_init_26 : decode cX4_init 26 = .ok (.new 9, 3) := by decide +kernel
theorem dX4_init_29 : decode cX4_init 29 = .ok (.dup, 1) := by decide +kernel
theorem dX4_init_30 : decode cX4_init 30 = .ok (.aload_n 1, 1) := by decide +kernel
theorem dX4_init_31 : decode cX4_init 31 = .ok (.invokespecial 17, 3) := by decide +kernel
theorem dX4_init_34 : decode cX4_init 34 = .ok (.aastore, 1) := by decide +kernel
theorem dX4_init_35 : decode cX4_init 35 = .ok (.iinc 2 1, 3) := by decide +kernel
theorem dX4_init_38 : decode cX4_init 38 = .ok (.goto (-23), 3) := by decide +kernel
theorem dX4_init_41 : decode cX4_init 41 = .ok (.return_, 1) := by decide +kernel
theorem dX4_size_0 : decode cX4_size 0 = .ok (.aload_n 0, 1) := by decide +kernel
theorem dX4_size_1 : decode cX4_size 1 = .ok (.getfield 20, 3) := by decide +kernel
theorem dX4_size_4 : decode cX4_size 4 = .ok (.ireturn, 1) := by decide +kernel
theorem dX4_placeOf_0 : decode cX4_placeOf 0 = .ok (.aload_n 0, 1) := by decide +kernel
theorem dX4_placeOf_1 : decode cX4_placeOf 1 = .ok (.getfield 24, 3) := by decide +kernel
theorem dX4_placeOf_4 : decode cX4_placeOf 4 = .ok (.iload_n 1, 1) := by decide +kernel
theorem dX4_placeOf_5 : decode cX4_placeOf 5 = .ok (.iadd, 1) := by decide +kernel
theorem dX4_placeOf_6 : decode cX4_placeOf 6 = .ok (.bipush 8, 2) := by decide +kernel
theorem dX4_placeOf_8 : decode cX4_placeOf 8 = .ok (.invokestatic 27, 3) := by decide +kernel
theorem dX4_placeOf_11 : decode cX4_placeOf 11 = .ok (.ireturn, 1) := by decide +kernel
theorem dX4_remember_0 : decode cX4_remember 0 = .ok (.aload_n 0, 1) := by decide +kernel
theorem dX4_remember_1 : decode cX4_remember 1 = .ok (.getfield 20, 3) := by decide +kernel
theorem dX4_remember_4 : decode cX4_remember 4 = .ok (.bipush 8, 2) := by decide +kernel
theorem dX4_remember_6 : decode cX4_remember 6 = .ok (.if_icmp .lt 18, 3) := by decide +kernel
theorem dX4_remember_9 : decode cX4_remember 9 = .ok (.aload_n 0, 1) := by decide +kernel
theorem dX4_remember_10 : decode cX4_remember 10 = .ok (.aload_n 0, 1) := by decide +kernel
theorem dX4_remember_11 : decode cX4_remember 11 = .ok (.iconst 1, 1) := by decide +kernel
theorem dX4_remember_12 : decode cX4_remember 12 = .ok (.invokevirtual 33, 3) := by decide +kernel
theorem dX4_remember_15 : decode cX4_remember 15 = .ok (.putfield 24, 3) := by decide +kernel
theorem dX4_remember_18 : decode cX4_remember 18 = .ok (.aload_n 0, 1) := by decide +kernel
theorem dX4_remember_19 : decode cX4_remember 19 = .ok (.bipush 7, 2) := by decide +kernel
theorem dX4_remember_21 : decode cX4_remember 21 = .ok (.putfield 20, 3) := by decide +kernel
theorem dX4_remember_24 : decode cX4_remember 24 = .ok (.aload_n 0, 1) := by decide +kernel
theorem dX4_remember_25 : decode cX4_remember 25 = .ok (.getfield 11, 3) := by decide +kernel
theorem dX4_remember_28 : decode cX4_remember 28 = .ok (.aload_n 0, 1) := by decide +kernel
theorem dX4_remember_29 : decode cX4_remember 29 = .ok (.aload_n 0, 1) := by decide +kernel
theorem dX4_remember_30 : decode cX4_remember 30 = .ok (.getfield 20, 3) := by decide +kernel
theorem dX4_remember_33 : decode cX4_remember 33 = .ok (.invokevirtual 33, 3) := by decide +kernel
theorem dX4_remember_36 : decode cX4_remember 36 = .ok (.aaload, 1) := by decide +kernel
theorem dX4_remember_37 : decode cX4_remember 37 = .ok (.aload_n 1, 1) := by decide +kernel
theorem dX4_remember_38 : decode cX4_remember 38 = .ok (.invokevirtual 37, 3) := by decide +kernel
theorem dX4_remember_41 : decode cX4_remember 41 = .ok (.aload_n 0, 1) := by decide +kernel
theorem dX4_remember_42 : decode cX4_remember 42 = .ok (.dup, 1) := by decide +kernel
theorem dX4_remember_43 : decode cX4_remember 43 = .ok (.getfield 20, 3) := by decide +kernel
theorem dX4_remember_46 : decode cX4_remember 46 = .ok (.iconst 1, 1) := by decide +kernel
theorem dX4_remember_47 : decode cX4_remember 47 = .ok (.iadd, 1) := by decide +kernel
theorem dX4_remember_48 : decode cX4_remember 48 = .ok (.putfield 20, 3) := by decide +kernel
theorem dX4_remember_51 : decode cX4_remember 51 = .ok (.return_, 1) := by decide +kernel
theorem dX4_bringBack_0 : decode cX4_bringBack 0 = .ok (.aload_n 0, 1) := by decide +kernel
theorem dX4_bringBack_1 : decode cX4_bringBack 1 = .ok (.getfield 20, 3) := by decide +kernel
theorem dX4_bringBack_4 : decode cX4_bringBack 4 = .ok (.ifCond .le 30, 3) := by decide +kernel
theorem dX4_bringBack_7 : decode cX4_bringBack 7 = .ok (.aload_n 0, 1) := by decide +kernel
theorem dX4_bringBack_8 : decode cX4_bringBack 8 = .ok (.dup, 1) := by decide +kernel
theorem dX4_bringBack_9 : decode cX4_bringBack 9 = .ok (.getfield 20, 3) := by decide +kernel
theorem dX4_bringBack_12 : decode cX4_bringBack 12 = .ok (.iconst 1, 1) := by decide +kernel
theorem dX4_bringBack_13 : decode cX4_bringBack 13 = .ok (.isub, 1) := by decide +kernel
theorem dX4_bringBack_14 : decode cX4_bringBack 14 = .ok (.putfield 20, 3) := by decide +kernel
theorem dX4_bringBack_17 : decode cX4_bringBack 17 = .ok (.aload_n 1, 1) := by decide +kernel
theorem dX4_bringBack_18 : decode cX4_bringBack 18 = .ok (.aload_n 0, 1) := by decide +kernel
theorem dX4_bringBack_19 : decode cX4_bringBack 19 = .ok (.getfield 11, 3) := by decide +kernel
theorem dX4_bringBack_22 : decode cX4_bringBack 22 = .ok (.aload_n 0, 1) := by decide +kernel
theorem dX4_bringBack_23 : decode cX4_bringBack 23 = .ok (.aload_n 0, 1) := by decide +kernel
theorem dX4_bringBack_24 : decode cX4_bringBack 24 = .ok (.getfield 20, 3) := by decide +kernel
theorem dX4_bringBack_27 : decode cX4_bringBack 27 = .ok (.invokevirtual 33, 3) := by decide +kernel
theorem dX4_bringBack_30 : decode cX4_bringBack 30 = .ok (.aaload, 1) := by decide +kernel
theorem dX4_bringBack_31 : decode cX4_bringBack 31 = .ok (.invokevirtual 37, 3) := by decide +kernel
theorem dX4_bringBack_34 : decode cX4_bringBack 34 = .ok (.return_, 1) := by decide +kernel
theorem dX5_init_0 : decode cX5_init 0 = .ok (.aload_n 0, 1) := by decide +kernel
theorem dX5_init_1 : decode cX5_init 1 = .ok (.invokespecial 3, 3) := by decide +kernel
theorem dX5_init_4 : decode cX5_init 4 = .ok (.aload_n 0, 1) := by decide +kernel
theorem dX5_init_5 : decode cX5_init 5 = .ok (.aload_n 1, 1) := by decide +kernel
theorem dX5_init_6 : decode cX5_init 6 = .ok (.putfield 9, 3) := by decide +kernel
theorem dX5_init_9 : decode cX5_init 9 = .ok (.aload_n 0, 1) := by decide +kernel
theorem dX5_init_10 : decode cX5_init 10 = .ok (.bipush 11, 2) := by decide +kernel
theorem dX5_init_12 : decode cX5_init 12 = .ok (.newarray .long, 2) := by decide +kernel
theorem dX5_init_14 : decode cX5_init 14 = .ok (.putfield 15, 3) := by decide +kernel
theorem dX5_init_17 : decode cX5_init 17 = .ok (.return_, 1) := by decide +kernel
theorem dX5_price_0 : decode cX5_price 0 = .ok (.iconst 0, 1) := by decide +kernel
theorem dX5_price_1 : decode cX5_price 1 = .ok (.istore 5, 2) := by decide +kernel
theorem dX5_price_3 : decode cX5_price 3 = .ok (.iconst 0, 1) := by decide +kernel
theorem dX5_price_4 : decode cX5_price 4 = .ok (.istore 6, 2) := by decide +kernel
theorem dX5_price_6 : decode cX5_price 6 = .ok (.iload 6, 2) := by decide +kernel
theorem dX5_price_8 : decode cX5_price 8 = .ok (.aload_n 0, 1) := by decide +kernel
theorem dX5_price_9 : decode cX5_price 9 = .ok (.getfield 9, 3) := by decide +kernel
theorem dX5_price_12 : decode cX5_price 12 = .ok (.arraylength, 1) := by decide +kernel
theorem dX5_price_13 : decode cX5_price 13 = .ok (.if_icmp .ge 102, 3) := by decide +kernel
theorem dX5_price_16 : decode cX5_price 16 = .ok (.aload_n 0, 1) := by decide +kernel
theorem dX5_price_17 : decode cX5_price 17 = .ok (.getfield 9, 3) := by decide +kernel
theorem dX5_price_20 : decode cX5_price 20 = .ok (.iload 6, 2) := by decide +kernel
theorem dX5_price_22 : decode cX5_price 22 = .ok (.iaload, 1) := by decide +kernel
theorem dX5_price_23 : decode cX5_price 23 = .ok (.istore 7, 2) := by decide +kernel
theorem dX5_price_25 : decode cX5_price 25 = .ok (.iload 7, 2) := by decide +kernel
theorem dX5_price_27 : decode cX5_price 27 = .ok (.bipush (-5), 2) := by decide +kernel
theorem dX5_price_29 : decode cX5_price 29 = .ok (.if_icmp .gt 52, 3) := by decide +kernel
theorem dX5_price_32 : decode cX5_price 32 = .ok (.iload 5, 2) := by decide +kernel
theorem dX5_price_34 : decode cX5_price 34 = .ok (.iconst 2, 1) := by decide +kernel
theorem dX5_price_35 : decode cX5_price 35 = .ok (.if_icmp .lt 74, 3) := by decide +kernel
theorem dX5_price_38 : decode cX5_price 38 = .ok (.iload 5, 2) := by decide +kernel
theorem dX5_price_40 : decode cX5_price 40 = .ok (.bipush 11, 2) := by decide +kernel
theorem dX5_price_42 : decode cX5_price 42 = .ok (.if_icmp .gt 67, 3) := by decide +kernel
theorem dX5_price_45 : decode cX5_price 45 = .ok (.iinc 5 (-1), 3) := by decide +kernel
theorem dX5_price_48 : decode cX5_price 48 = .ok (.aload_n 0, 1) := by decide +kernel
theorem dX5_price_49 : decode cX5_price 49 = .ok (.getfield 15, 3) := by decide +kernel
theorem dX5_price_52 : decode cX5_price 52 = .ok (.iload 5, 2) := by decide +kernel
theorem dX5_price_54 : decode cX5_price 54 = .ok (.iconst 1, 1) := by decide +kernel
theorem dX5_price_55 : decode cX5_price 55 = .ok (.isub, 1) := by decide +kernel
theorem dX5_price_56 : decode cX5_price 56 = .ok (.iload 7, 2) := by decide +kernel
theorem dX5_price_58 : decode cX5_price 58 = .ok (.aload_n 0, 1) := by decide +kernel
theorem dX5_price_59 : decode cX5_price 59 = .ok (.getfield 15, 3) := by decide +kernel
theorem dX5_price_62 : decode cX5_price 62 = .ok (.iload 5, 2) := by decide +kernel
theorem dX5_price_64 : decode cX5_price 64 = .ok (.iconst 1, 1) := by decide +kernel
theorem dX5_price_65 : decode cX5_price 65 = .ok (.isub, 1) := by decide +kernel
theorem dX5_price_66 : decode cX5_price 66 = .ok (.laload, 1) := by decide +kernel
theorem dX5_price_67 : decode cX5_price 67 = .ok (.aload_n 0, 1) := by decide +kernel
theorem dX5_price_68 : decode cX5_price 68 = .ok (.getfield 15, 3) := by decide +kernel
theorem dX5_price_71 : decode cX5_price 71 = .ok (.iload 5, 2) := by decide +kernel
theorem dX5_price_73 : decode cX5_price 73 = .ok (.laload, 1) := by decide +kernel
theorem dX5_price_74 : decode cX5_price 74 = .ok (.invokestatic 19, 3) := by decide +kernel
theorem dX5_price_77 : decode cX5_price 77 = .ok (.lastore, 1) := by decide +kernel
theorem dX5_price_78 : decode cX5_price 78 = .ok (.goto 31, 3) := by decide +kernel
theorem dX5_price_81 : decode cX5_price 81 = .ok (.iload 5, 2) := by decide +kernel
theorem dX5_price_83 : decode cX5_price 83 = .ok (.bipush 11, 2) := by decide +kernel
theorem dX5_price_85 : decode cX5_price 85 = .ok (.if_icmp .ge 24, 3) := by decide +kernel
theorem dX5_price_88 : decode cX5_price 88 = .ok (.aload_n 0, 1) := by decide +kernel
theorem dX5_price_89 : decode cX5_price 89 = .ok (.getfield 15, 3) := by decide +kernel
theorem dX5_price_92 : decode cX5_price 92 = .ok (.iload 5, 2) := by decide +kernel
theorem dX5_price_94 : decode cX5_price 94 = .ok (.iload 7, 2) := by decide +kernel
theorem dX5_price_96 : decode cX5_price 96 = .ok (.iload_n 1, 1) := by decide +kernel
theorem dX5_price_97 : decode cX5_price 97 = .ok (.iload_n 2, 1) := by decide +kernel
theorem dX5_price_98 : decode cX5_price 98 = .ok (.iload_n 3, 1) := by decide +kernel
theorem dX5_price_99 : decode cX5_price 99 = .ok (.iload 4, 2) := by decide +kernel
theorem dX5_price_101 : decode cX5_price 101 = .ok (.invokestatic 23, 3) := by decide +kernel
theorem dX5_price_104 : decode cX5_price 104 = .ok (.i2l, 1) := by decide +kernel
theorem dX5_price_105 : decode cX5_price 105 = .ok (.lastore, 1) := by decide +kernel
theorem dX5_price_106 : decode cX5_price 106 = .ok (.iinc 5 1, 3) := by decide +kernel
theorem dX5_price_109 : decode cX5_price 109 = .ok (.iinc 6 1, 3) := by decide +kernel
theorem dX5_price_112 : decode cX5_price 112 = .ok (.goto (-106), 3) := by decide +kernel
theorem dX5_price_115 : decode cX5_price 115 = .ok (.lconst 0, 1) := by decide +kernel
theorem dX5_price_116 : decode cX5_price 116 = .ok (.ldc2_w 27, 3) := by decide +kernel
theorem dX5_price_119 : decode cX5_price 119 = .ok (.aload_n 0, 1) := by decide +kernel
theorem dX5_price_120 : decode cX5_price 120 = .ok (.getfield 15, 3) := by decide +kernel
theorem dX5_price_123 : decode cX5_price 123 = .ok (.iconst 0, 1) := by decide +kernel
theorem dX5_price_124 : decode cX5_price 124 = .ok (.laload, 1) := by decide +kernel
theorem dX5_price_125 : decode cX5_price 125 = .ok (.invokestatic 29, 3) := by decide +kernel
theorem dX5_price_128 : decode cX5_price 128 = .ok (.invokestatic 35, 3) := by decide +kernel
theorem dX5_price_131 : decode cX5_price 131 = .ok (.l2i, 1) := by decide +kernel
theorem dX5_price_132 : decode cX5_price 132 = .ok (.ireturn, 1) := by decide +kernel
theorem dX5_operand_0 : decode cX5_operand 0 = .ok (.iload_n 0, 1) := by decide +kernel
theorem dX5_operand_1 : decode cX5_operand 1 = .ok (.tableswitch 40 (-4) (-1) #[37, 35, 33, 31], 31) := by decide +kernel
theorem dX5_operand_32 : decode cX5_operand 32 = .ok (.iload_n 1, 1) := by decide +kernel
theorem dX5_operand_33 : decode cX5_operand 33 = .ok (.ireturn, 1) := by decide +kernel
theorem dX5_operand_34 : decode cX5_operand 34 = .ok (.iload_n 2, 1) := by decide +kernel
theorem dX5_operand_35 : decode cX5_operand 35 = .ok (.ireturn, 1) := by decide +kernel
theorem dX5_operand_36 : decode cX5_operand 36 = .ok (.iload_n 3, 1) := by decide +kernel
theorem dX5_operand_37 : decode cX5_operand 37 = .ok (.ireturn, 1) := by decide +kernel
theorem dX5_operand_38 : decode cX5_operand 38 = .ok (.iload 4, 2) := by decide +kernel
theorem dX5_operand_40 : decode cX5_operand 40 = .ok (.ireturn, 1) := by decide +kernel
theorem dX5_operand_41 : decode cX5_operand 41 = .ok (.iload_n 0, 1) := by decide +kernel
theorem dX5_operand_42 : decode cX5_operand 42 = .ok (.ireturn, 1) := by decide +kernel
theorem dX5_result_0 : decode cX5_result 0 = .ok (.iload_n 0, 1) := by decide +kernel
theorem dX5_result_1 : decode cX5_result 1 = .ok (.tableswitch 51 (-7) (-5) #[43, 35, 27], 27) := by decide +kernel
theorem dX5_result_28 : decode cX5_result 28 = .ok (.lload_n 1, 1) := by decide +kernel
theorem dX5_result_29 : decode cX5_result 29 = .ok (.lload_n 3, 1) := by decide +kernel
theorem dX5_result_30 : decode cX5_result 30 = .ok (.ladd, 1) := by decide +kernel
theorem dX5_result_31 : decode cX5_result 31 = .ok (.lstore 5, 2) := by decide +kernel
theorem dX5_result_33 : decode cX5_result 33 = .ok (.goto 34, 3) := by decide +kernel
theorem dX5_result_36 : decode cX5_result 36 = .ok (.lload_n 1, 1) := by decide +kernel
theorem dX5_result_37 : decode cX5_result 37 = .ok (.lload_n 3, 1) := by decide +kernel
theorem dX5_result_38 : decode cX5_result 38 = .ok (.lsub, 1) := by decide +kernel
theorem dX5_result_39 : decode cX5_result 39 = .ok (.lstore 5, 2) := by decide +kernel
theorem dX5_result_41 : decode cX5_result 41 = .ok (.goto 26, 3) := by decide +kernel
theorem dX5_result_44 : decode cX5_result 44 = .ok (.lload_n 1, 1) := by decide +kernel
theorem dX5_result_45 : decode cX5_result 45 = .ok (.lload_n 3, 1) := by decide +kernel
theorem dX5_result_46 : decode cX5_result 46 = .ok (.lmul, 1) := by decide +kernel
theorem dX5_result_47 : decode cX5_result 47 = .ok (.lstore 5, 2) := by decide +kernel
theorem dX5_result_49 : decode cX5_result 49 = .ok (.goto 18, 3) := by decide +kernel
theorem dX5_result_52 : decode cX5_result 52 = .ok (.lload_n 3, 1) := by decide +kernel
theorem dX5_result_53 : decode cX5_result 53 = .ok (.lconst 0, 1) := by decide +kernel
theorem dX5_result_54 : decode cX5_result 54 = .ok (.lcmp, 1) := by decide +kernel
theorem dX5_result_55 : decode cX5_result 55 = .ok (.ifCond .ne 7, 3) := by decide +kernel
theorem dX5_result_58 : decode cX5_result 58 = .ok (.lconst 0, 1) := by decide +kernel
theorem dX5_result_59 : decode cX5_result 59 = .ok (.goto 6, 3) := by decide +kernel
theorem dX5_result_62 : decode cX5_result 62 = .ok (.lload_n 1, 1) := by decide +kernel
theorem dX5_result_63 : decode cX5_result 63 = .ok (.lload_n 3, 1) := by decide +kernel
theorem dX5_result_64 : decode cX5_result 64 = .ok (.ldiv, 1) := by decide +kernel
theorem dX5_result_65 : decode cX5_result 65 = .ok (.lstore 5, 2) := by decide +kernel
theorem dX5_result_67 : decode cX5_result 67 = .ok (.ldc2_w 38, 3) := by decide +kernel
theorem dX5_result_70 : decode cX5_result 70 = .ok (.ldc2_w 40, 3) := by decide +kernel
theorem dX5_result_73 : decode cX5_result 73 = .ok (.lload 5, 2) := by decide +kernel
theorem dX5_result_75 : decode cX5_result 75 = .ok (.invokestatic 29, 3) := by decide +kernel
theorem dX5_result_78 : decode cX5_result 78 = .ok (.invokestatic 35, 3) := by decide +kernel
theorem dX5_result_81 : decode cX5_result 81 = .ok (.lreturn, 1) := by decide +kernel
theorem dX6_init_0 : decode cX6_init 0 = .ok (.aload_n 0, 1) := by decide +kernel
theorem dX6_init_1 : decode cX6_init 1 = .ok (.invokespecial 1, 3) := by decide +kernel
theorem dX6_init_4 : decode cX6_init 4 = .ok (.aload_n 0, 1) := by decide +kernel
theorem dX6_init_5 : decode cX6_init 5 = .ok (.iload_n 1, 1) := by decide +kernel
theorem dX6_init_6 : decode cX6_init 6 = .ok (.iconst 0, 1) := by decide +kernel
theorem dX6_init_7 : decode cX6_init 7 = .ok (.invokestatic 7, 3) := by decide +kernel
theorem dX6_init_10 : decode cX6_init 10 = .ok (.newarray .int, 2) := by decide +kernel
theorem dX6_init_12 : decode cX6_init 12 = .ok (.putfield 13, 3) := by decide +kernel
theorem dX6_init_15 : decode cX6_init 15 = .ok (.aload_n 0, 1) := by decide +kernel
theorem dX6_init_16 : decode cX6_init 16 = .ok (.iconst 0, 1) := by decide +kernel
theorem dX6_init_17 : decode cX6_init 17 = .ok (.putfield 19, 3) := by decide +kernel
theorem dX6_init_20 : decode cX6_init 20 = .ok (.return_, 1) := by decide +kernel
theorem dX6_size_0 : decode cX6_size 0 = .ok (.aload_n 0, 1) := by decide +kernel
theorem dX6_size_1 : decode cX6_size 1 = .ok (.getfield 19, 3) := by decide +kernel
theorem dX6_size_4 : decode cX6_size 4 = .ok (.ireturn, 1) := by decide +kernel
theorem dX6_isFull_0 : decode cX6_isFull 0 = .ok (.aload_n 0, 1) := by decide +kernel
theorem dX6_isFull_1 : decode cX6_isFull 1 = .ok (.getfield 19, 3) := by decide +kernel
theorem dX6_isFull_4 : decode cX6_isFull 4 = .ok (.aload_n 0, 1) := by decide +kernel
theorem dX6_isFull_5 : decode cX6_isFull 5 = .ok (.getfield 13, 3) := by decide +kernel
theorem dX6_isFull_8 : decode cX6_isFull 8 = .ok (.arraylength, 1) := by decide +kernel
theorem dX6_isFull_9 : decode cX6_isFull 9 = .ok (.if_icmp .lt 7, 3) := by decide +kernel
theorem dX6_isFull_12 : decode cX6_isFull 12 = .ok (.iconst 1, 1) := by decide +kernel
theorem dX6_isFull_13 : decode cX6_isFull 13 = .ok (.goto 4, 3) := by decide +kernel
theorem dX6_isFull_16 : decode cX6_isFull 16 = .ok (.iconst 0, 1) := by decide +kernel
theorem dX6_isFull_17 : decode cX6_isFull 17 = .ok (.ireturn, 1) := by decide +kernel
theorem dX6_holds_0 : decode cX6_holds 0 = .ok (.iload_n 1, 1) := by decide +kernel
theorem dX6_holds_1 : decode cX6_holds 1 = .ok (.ifCond .lt 24, 3) := by decide +kernel
theorem dX6_holds_4 : decode cX6_holds 4 = .ok (.iload_n 1, 1) := by decide +kernel
theorem dX6_holds_5 : decode cX6_holds 5 = .ok (.aload_n 0, 1) := by decide +kernel
theorem dX6_holds_6 : decode cX6_holds 6 = .ok (.getfield 19, 3) := by decide +kernel
theorem dX6_holds_9 : decode cX6_holds 9 = .ok (.if_icmp .ge 16, 3) := by decide +kernel
theorem dX6_holds_12 : decode cX6_holds 12 = .ok (.iload_n 1, 1) := by decide +kernel
theorem dX6_holds_13 : decode cX6_holds 13 = .ok (.aload_n 0, 1) := by decide +kernel
theorem dX6_holds_14 : decode cX6_holds 14 = .ok (.getfield 13, 3) := by decide +kernel
theorem dX6_holds_17 : decode cX6_holds 17 = .ok (.arraylength, 1) := by decide +kernel
theorem dX6_holds_18 : decode cX6_holds 18 = .ok (.if_icmp .ge 7, 3) := by decide +kernel
theorem dX6_holds_21 : decode cX6_holds 21 = .ok (.iconst 1, 1) := by decide +kernel
theorem dX6_holds_22 : decode cX6_holds 22 = .ok (.goto 4, 3) := by decide +kernel
theorem dX6_holds_25 : decode cX6_holds 25 = .ok (.iconst 0, 1) := by decide +kernel
theorem dX6_holds_26 : decode cX6_holds 26 = .ok (.ireturn, 1) := by decide +kernel
theorem dX6_at_0 : decode cX6_at 0 = .ok (.aload_n 0, 1) := by decide +kernel
theorem dX6_at_1 : decode cX6_at 1 = .ok (.iload_n 1, 1) := by decide +kernel
theorem dX6_at_2 : decode cX6_at 2 = .ok (.invokevirtual 23, 3) := by decide +kernel
theorem dX6_at_5 : decode cX6_at 5 = .ok (.ifCond .eq 12, 3) := by decide +kernel
theorem dX6_at_8 : decode cX6_at 8 = .ok (.aload_n 0, 1) := by decide +kernel
theorem dX6_at_9 : decode cX6_at 9 = .ok (.getfield 13, 3) := by decide +kernel
theorem dX6_at_12 : decode cX6_at 12 = .ok (.iload_n 1, 1) := by decide +kernel
theorem dX6_at_13 : decode cX6_at 13 = .ok (.iaload, 1) := by decide +kernel
theorem dX6_at_14 : decode cX6_at 14 = .ok (.goto 4, 3) := by decide +kernel
theorem dX6_at_17 : decode cX6_at 17 = .ok (.iconst 0, 1) := by decide +kernel
theorem dX6_at_18 : decode cX6_at 18 = .ok (.ireturn, 1) := by decide +kernel
theorem dX6_push_0 : decode cX6_push 0 = .ok (.aload_n 0, 1) := by decide +kernel
theorem dX6_push_1 : decode cX6_push 1 = .ok (.getfield 19, 3) := by decide +kernel
theorem dX6_push_4 : decode cX6_push 4 = .ok (.ifCond .lt 35, 3) := by decide +kernel
theorem dX6_push_7 : decode cX6_push 7 = .ok (.aload_n 0, 1) := by decide +kernel
theorem dX6_push_8 : decode cX6_push 8 = .ok (.getfield 19, 3) := by decide +kernel
theorem dX6_push_11 : decode cX6_push 11 = .ok (.aload_n 0, 1) := by decide +kernel
theorem dX6_push_12 : decode cX6_push 12 = .ok (.getfield 13, 3) := by decide +kernel
theorem dX6_push_15 : decode cX6_push 15 = .ok (.arraylength, 1) := by decide +kernel
theorem dX6_push_16 : decode cX6_push 16 = .ok (.if_icmp .ge 23, 3) := by decide +kernel
theorem dX6_push_19 : decode cX6_push 19 = .ok (.aload_n 0, 1) := by decide +kernel
theorem dX6_push_20 : decode cX6_push 20 = .ok (.getfield 13, 3) := by decide +kernel
theorem dX6_push_23 : decode cX6_push 23 = .ok (.aload_n 0, 1) := by decide +kernel
theorem dX6_push_24 : decode cX6_push 24 = .ok (.getfield 19, 3) := by decide +kernel
theorem dX6_push_27 : decode cX6_push 27 = .ok (.iload_n 1, 1) := by decide +kernel
theorem dX6_push_28 : decode cX6_push 28 = .ok (.iastore, 1) := by decide +kernel
theorem dX6_push_29 : decode cX6_push 29 = .ok (.aload_n 0, 1) := by decide +kernel
theorem dX6_push_30 : decode cX6_push 30 = .ok (.dup, 1) := by decide +kernel
theorem dX6_push_31 : decode cX6_push 31 = .ok (.getfield 19, 3) := by decide +kernel
theorem dX6_push_34 : decode cX6_push 34 = .ok (.iconst 1, 1) := by decide +kernel
theorem dX6_push_35 : decode cX6_push 35 = .ok (.iadd, 1) := by decide +kernel
theorem dX6_push_36 : decode cX6_push 36 = .ok (.putfield 19, 3) := by decide +kernel
theorem dX6_push_39 : decode cX6_push 39 = .ok (.return_, 1) := by decide +kernel
theorem dX6_remove_0 : decode cX6_remove 0 = .ok (.aload_n 0, 1) := by decide +kernel
theorem dX6_remove_1 : decode cX6_remove 1 = .ok (.iload_n 1, 1) := by decide +kernel
theorem dX6_remove_2 : decode cX6_remove 2 = .ok (.invokevirtual 23, 3) := by decide +kernel
theorem dX6_remove_5 : decode cX6_remove 5 = .ok (.ifCond .ne 4, 3) := by decide +kernel
theorem dX6_remove_8 : decode cX6_remove 8 = .ok (.return_, 1) := by decide +kernel
theorem dX6_remove_9 : decode cX6_remove 9 = .ok (.iload_n 1, 1) := by decide +kernel
theorem dX6_remove_10 : decode cX6_remove 10 = .ok (.iconst 1, 1) := by decide +kernel
theorem dX6_remove_11 : decode cX6_remove 11 = .ok (.iadd, 1) := by decide +kernel
theorem dX6_remove_12 : decode cX6_remove 12 = .ok (.istore_n 2, 1) := by decide +kernel
theorem dX6_remove_13 : decode cX6_remove 13 = .ok (.iload_n 2, 1) := by decide +kernel
theorem dX6_remove_14 : decode cX6_remove 14 = .ok (.aload_n 0, 1) := by decide +kernel
theorem dX6_remove_15 : decode cX6_remove 15 = .ok (.getfield 19, 3) := by decide +kernel
theorem dX6_remove_18 : decode cX6_remove 18 = .ok (.if_icmp .ge 32, 3) := by decide +kernel
theorem dX6_remove_21 : decode cX6_remove 21 = .ok (.iload_n 2, 1) := by decide +kernel
theorem dX6_remove_22 : decode cX6_remove 22 = .ok (.aload_n 0, 1) := by decide +kernel
theorem dX6_remove_23 : decode cX6_remove 23 = .ok (.getfield 13, 3) := by decide +kernel
theorem dX6_remove_26 : decode cX6_remove 26 = .ok (.arraylength, 1) := by decide +kernel
theorem dX6_remove_27 : decode cX6_remove 27 = .ok (.if_icmp .ge 23, 3) := by decide +kernel
theorem dX6_remove_30 : decode cX6_remove 30 = .ok (.aload_n 0, 1) := by decide +kernel
theorem dX6_remove_31 : decode cX6_remove 31 = .ok (.getfield 13, 3) := by decide +kernel
theorem dX6_remove_34 : decode cX6_remove 34 = .ok (.iload_n 2, 1) := by decide +kernel
theorem dX6_remove_35 : decode cX6_remove 35 = .ok (.iconst 1, 1) := by decide +kernel
theorem dX6_remove_36 : decode cX6_remove 36 = .ok (.isub, 1) := by decide +kernel
theorem dX6_remove_37 : decode cX6_remove 37 = .ok (.aload_n 0, 1) := by decide +kernel
theorem dX6_remove_38 : decode cX6_remove 38 = .ok (.getfield 13, 3) := by decide +kernel
theorem dX6_remove_41 : decode cX6_remove 41 = .ok (.iload_n 2, 1) := by decide +kernel
theorem dX6_remove_42 : decode cX6_remove 42 = .ok (.iaload, 1) := by decide +kernel
theorem dX6_remove_43 : decode cX6_remove 43 = .ok (.iastore, 1) := by decide +kernel
theorem dX6_remove_44 : decode cX6_remove 44 = .ok (.iinc 2 1, 3) := by decide +kernel
theorem dX6_remove_47 : decode cX6_remove 47 = .ok (.goto (-34), 3) := by decide +kernel
theorem dX6_remove_50 : decode cX6_remove 50 = .ok (.aload_n 0, 1) := by decide +kernel
theorem dX6_remove_51 : decode cX6_remove 51 = .ok (.dup, 1) := by decide +kernel
theorem dX6_remove_52 : decode cX6_remove 52 = .ok (.getfield 19, 3) := by decide +kernel
theorem dX6_remove_55 : decode cX6_remove 55 = .ok (.iconst 1, 1) := by decide +kernel
theorem dX6_remove_56 : decode cX6_remove 56 = .ok (.isub, 1) := by decide +kernel
theorem dX6_remove_57 : decode cX6_remove 57 = .ok (.putfield 19, 3) := by decide +kernel
theorem dX6_remove_60 : decode cX6_remove 60 = .ok (.return_, 1) := by decide +kernel
theorem dX6_clear_0 : decode cX6_clear 0 = .ok (.aload_n 0, 1) := by decide +kernel
theorem dX6_clear_1 : decode cX6_clear 1 = .ok (.iconst 0, 1) := by decide +kernel
theorem dX6_clear_2 : decode cX6_clear 2 = .ok (.putfield 19, 3) := by decide +kernel
theorem dX6_clear_5 : decode cX6_clear 5 = .ok (.return_, 1) := by decide +kernel
theorem dX6_copyFrom_0 : decode cX6_copyFrom 0 = .ok (.iconst 0, 1) := by decide +kernel
theorem dX6_copyFrom_1 : decode cX6_copyFrom 1 = .ok (.aload_n 1, 1) := by decide +kernel
theorem dX6_copyFrom_2 : decode cX6_copyFrom 2 = .ok (.getfield 19, 3) := by decide +kernel
theorem dX6_copyFrom_5 : decode cX6_copyFrom 5 = .ok (.aload_n 1, 1) := by decide +kernel
theorem dX6_copyFrom_6 : decode cX6_copyFrom 6 = .ok (.getfield 13, 3) := by decide +kernel
theorem dX6_copyFrom_9 : decode cX6_copyFrom 9 = .ok (.arraylength, 1) := by decide +kernel
theorem dX6_copyFrom_10 : decode cX6_copyFrom 10 = .ok (.aload_n 0, 1) := by decide +kernel
theorem dX6_copyFrom_11 : decode cX6_copyFrom 11 = .ok (.getfield 13, 3) := by decide +kernel
theorem dX6_copyFrom_14 : decode cX6_copyFrom 14 = .ok (.arraylength, 1) := by decide +kernel
theorem dX6_copyFrom_15 : decode cX6_copyFrom 15 = .ok (.invokestatic 27, 3) := by decide +kernel
theorem dX6_copyFrom_18 : decode cX6_copyFrom 18 = .ok (.invokestatic 27, 3) := by decide +kernel
theorem dX6_copyFrom_21 : decode cX6_copyFrom 21 = .ok (.invokestatic 7, 3) := by decide +kernel
theorem dX6_copyFrom_24 : decode cX6_copyFrom 24 = .ok (.istore_n 2, 1) := by decide +kernel
theorem dX6_copyFrom_25 : decode cX6_copyFrom 25 = .ok (.aload_n 1, 1) := by decide +kernel
theorem dX6_copyFrom_26 : decode cX6_copyFrom 26 = .ok (.getfield 13, 3) := by decide +kernel
theorem dX6_copyFrom_29 : decode cX6_copyFrom 29 = .ok (.iconst 0, 1) := by decide +kernel
theorem dX6_copyFrom_30 : decode cX6_copyFrom 30 = .ok (.aload_n 0, 1) := by decide +kernel
theorem dX6_copyFrom_31 : decode cX6_copyFrom 31 = .ok (.getfield 13, 3) := by decide +kernel
theorem dX6_copyFrom_34 : decode cX6_copyFrom 34 = .ok (.iconst 0, 1) := by decide +kernel
theorem dX6_copyFrom_35 : decode cX6_copyFrom 35 = .ok (.iload_n 2, 1) := by decide +kernel
theorem dX6_copyFrom_36 : decode cX6_copyFrom 36 = .ok (.invokestatic 30, 3) := by decide +kernel
theorem dX6_copyFrom_39 : decode cX6_copyFrom 39 = .ok (.aload_n 0, 1) := by decide +kernel
theorem dX6_copyFrom_40 : decode cX6_copyFrom 40 = .ok (.iload_n 2, 1) := by decide +kernel
theorem dX6_copyFrom_41 : decode cX6_copyFrom 41 = .ok (.putfield 19, 3) := by decide +kernel
theorem dX6_copyFrom_44 : decode cX6_copyFrom 44 = .ok (.return_, 1) := by decide +kernel
theorem dX6_toArray_0 : decode cX6_toArray 0 = .ok (.aload_n 0, 1) := by decide +kernel
theorem dX6_toArray_1 : decode cX6_toArray 1 = .ok (.getfield 13, 3) := by decide +kernel
theorem dX6_toArray_4 : decode cX6_toArray 4 = .ok (.iconst 0, 1) := by decide +kernel
theorem dX6_toArray_5 : decode cX6_toArray 5 = .ok (.aload_n 0, 1) := by decide +kernel
theorem dX6_toArray_6 : decode cX6_toArray 6 = .ok (.getfield 19, 3) := by decide +kernel
theorem dX6_toArray_9 : decode cX6_toArray 9 = .ok (.aload_n 0, 1) := by decide +kernel
theorem dX6_toArray_10 : decode cX6_toArray 10 = .ok (.getfield 13, 3) := by decide +kernel
theorem dX6_toArray_13 : decode cX6_toArray 13 = .ok (.arraylength, 1) := by decide +kernel
theorem dX6_toArray_14 : decode cX6_toArray 14 = .ok (.invokestatic 27, 3) := by decide +kernel
theorem dX6_toArray_17 : decode cX6_toArray 17 = .ok (.invokestatic 7, 3) := by decide +kernel
theorem dX6_toArray_20 : decode cX6_toArray 20 = .ok (.invokestatic 36, 3) := by decide +kernel
theorem dX6_toArray_23 : decode cX6_toArray 23 = .ok (.areturn, 1) := by decide +kernel
theorem dX7_init_0 : decode cX7_init 0 = .ok (.aload_n 0, 1) := by decide +kernel
theorem dX7_init_1 : decode cX7_init 1 = .ok (.invokespecial 3, 3) := by decide +kernel
theorem dX7_init_4 : decode cX7_init 4 = .ok (.aload_n 0, 1) := by decide +kernel
theorem dX7_init_5 : decode cX7_init 5 = .ok (.aload_n 1, 1) := by decide +kernel
theorem dX7_init_6 : decode cX7_init 6 = .ok (.putfield 9, 3) := by decide +kernel
theorem dX7_init_9 : decode cX7_init 9 = .ok (.aload_n 0, 1) := by decide +kernel
theorem dX7_init_10 : decode cX7_init 10 = .ok (.sipush 700, 3) := by decide +kernel
theorem dX7_init_13 : decode cX7_init 13 = .ok (.newarray .int, 2) := by decide +kernel
theorem dX7_init_15 : decode cX7_init 15 = .ok (.putfield 15, 3) := by decide +kernel
theorem dX7_init_18 : decode cX7_init 18 = .ok (.aload_n 0, 1) := by decide +kernel
theorem dX7_init_19 : decode cX7_init 19 = .ok (.new 19, 3) := by decide +kernel
theorem dX7_init_22 : decode cX7_init 22 = .ok (.dup, 1) := by decide +kernel
theorem dX7_init_23 : decode cX7_init 23 = .ok (.sipush 700, 3) := by decide +kernel
theorem dX7_init_26 : decode cX7_init 26 = .ok (.invokespecial 21, 3) := by decide +kernel
theorem dX7_init_29 : decode cX7_init 29 = .ok (.putfield 24, 3) := by decide +kernel
theorem dX7_init_32 : decode cX7_init 32 = .ok (.aload_n 0, 1) := by decide +kernel
theorem dX7_init_33 : decode cX7_init 33 = .ok (.new 28, 3) := by decide +kernel
theorem dX7_init_36 : decode cX7_init 36 = .ok (.dup, 1) := by decide +kernel
theorem dX7_init_37 : decode cX7_init 37 = .ok (.aload_n 1, 1) := by decide +kernel
theorem dX7_init_38 : decode cX7_init 38 = .ok (.invokespecial 30, 3) := by decide +kernel
theorem dX7_init_41 : decode cX7_init 41 = .ok (.putfield 33, 3) := by decide +kernel
theorem dX7_init_44 : decode cX7_init 44 = .ok (.return_, 1) := by decide +kernel
theorem dX7_textLength_0 : decode cX7_textLength 0 = .ok (.aload_n 0, 1) := by decide +kernel
theorem dX7_textLength_1 : decode cX7_textLength 1 = .ok (.getfield 37, 3) := by decide +kernel
theorem dX7_textLength_4 : decode cX7_textLength 4 = .ok (.ireturn, 1) := by decide +kernel
theorem dX7_hasRoomForFiveWords_0 : decode cX7_hasRoomForFiveWords 0 = .ok (.aload_n 0, 1) := by decide +kernel
theorem dX7_hasRoomForFiveWords_1 : decode cX7_hasRoomForFiveWords 1 = .ok (.getfield 37, 3) := by decide +kernel
theorem dX7_hasRoomForFiveWords_4 : decode cX7_hasRoomForFiveWords 4 = .ok (.bipush 20, 2) := by decide +kernel
theorem dX7_hasRoomForFiveWords_6 : decode cX7_hasRoomForFiveWords 6 = .ok (.iadd, 1) := by decide +kernel
theorem dX7_hasRoomForFiveWords_7 : decode cX7_hasRoomForFiveWords 7 = .ok (.sipush 700, 3) := by decide +kernel
theorem dX7_hasRoomForFiveWords_10 : decode cX7_hasRoomForFiveWords 10 = .ok (.if_icmp .gt 7, 3) := by decide +kernel
theorem dX7_hasRoomForFiveWords_13 : decode cX7_hasRoomForFiveWords 13 = .ok (.iconst 1, 1) := by decide +kernel
theorem dX7_hasRoomForFiveWords_14 : decode cX7_hasRoomForFiveWords 14 = .ok (.goto 4, 3) := by decide +kernel
theorem dX7_hasRoomForFiveWords_17 : decode cX7_hasRoomForFiveWords 17 = .ok (.iconst 0, 1) := by decide +kernel
theorem dX7_hasRoomForFiveWords_18 : decode cX7_hasRoomForFiveWords 18 = .ok (.ireturn, 1) := by decide +kernel
theorem dX7_addWord_0 : decode cX7_addWord 0 = .ok (.iconst 3, 1) := by decide +kernel
theorem dX7_addWord_1 : decode cX7_addWord 1 = .ok (.istore_n 2, 1) := by decide +kernel
theorem dX7_addWord_2 : decode cX7_addWord 2 = .ok (.iload_n 2, 1) := by decide +kernel
theorem dX7_addWord_3 : decode cX7_addWord 3 = .ok (.ifCond .lt 55, 3) := by decide +kernel
theorem dX7_addWord_6 : decode cX7_addWord 6 = .ok (.aload_n 0, 1) := by decide +kernel
theorem dX7_addWord_7 : decode cX7_addWord 7 = .ok (.getfield 37, 3) := by decide +kernel
theorem dX7_addWord_10 : decode cX7_addWord 10 = .ok (.ifCond .lt 42, 3) := by decide +kernel
theorem dX7_addWord_13 : decode cX7_addWord 13 = .ok (.aload_n 0, 1) := by decide +kernel
theorem dX7_addWord_14 : decode cX7_addWord 14 = .ok (.getfield 37, 3) := by decide +kernel
theorem dX7_addWord_17 : decode cX7_addWord 17 = .ok (.sipush 700, 3) := by decide +kernel
theorem dX7_addWord_20 : decode cX7_addWord 20 = .ok (.if_icmp .ge 32, 3) := by decide +kernel
theorem dX7_addWord_23 : decode cX7_addWord 23 = .ok (.aload_n 0, 1) := by decide +kernel
theorem dX7_addWord_24 : decode cX7_addWord 24 = .ok (.getfield 15, 3) := by decide +kernel
theorem dX7_addWord_27 : decode cX7_addWord 27 = .ok (.aload_n 0, 1) := by decide +kernel
theorem dX7_addWord_28 : decode cX7_addWord 28 = .ok (.getfield 37, 3) := by decide +kernel
theorem dX7_addWord_31 : decode cX7_addWord 31 = .ok (.iload_n 1, 1) := by decide +kernel
theorem dX7_addWord_32 : decode cX7_addWord 32 = .ok (.bipush 8, 2) := by decide +kernel
theorem dX7_addWord_34 : decode cX7_addWord 34 = .ok (.iload_n 2, 1) := by decide +kernel
theorem dX7_addWord_35 : decode cX7_addWord 35 = .ok (.imul, 1) := by decide +kernel
theorem dX7_addWord_36 : decode cX7_addWord 36 = .ok (.iushr, 1) := by decide +kernel
theorem dX7_addWord_37 : decode cX7_addWord 37 = .ok (.sipush 255, 3) := by decide +kernel
theorem dX7_addWord_40 : decode cX7_addWord 40 = .ok (.iand, 1) := by decide +kernel
theorem dX7_addWord_41 : decode cX7_addWord 41 = .ok (.iastore, 1) := by decide +kernel
theorem dX7_addWord_42 : decode cX7_addWord 42 = .ok (.aload_n 0, 1) := by decide +kernel
theorem dX7_addWord_43 : decode cX7_addWord 43 = .ok (.dup, 1) := by decide +kernel
theorem dX7_addWord_44 : decode cX7_addWord 44 = .ok (.getfield 37, 3) := by decide +kernel
theorem dX7_addWord_47 : decode cX7_addWord 47 = .ok (.iconst 1, 1) := by decide +kernel
theorem dX7_addWord_48 : decode cX7_addWord 48 = .ok (.iadd, 1) := by decide +kernel
theorem dX7_addWord_49 : decode cX7_addWord 49 = .ok (.putfield 37, 3) := by decide +kernel
theorem dX7_addWord_52 : decode cX7_addWord 52 = .ok (.iinc 2 (-1), 3) := by decide +kernel
theorem dX7_addWord_55 : decode cX7_addWord 55 = .ok (.goto (-53), 3) := by decide +kernel
theorem dX7_addWord_58 : decode cX7_addWord 58 = .ok (.return_, 1) := by decide +kernel
theorem dX7_errorPlace_0 : decode cX7_errorPlace 0 = .ok (.aload_n 0, 1) := by decide +kernel
theorem dX7_errorPlace_1 : decode cX7_errorPlace 1 = .ok (.getfield 41, 3) := by decide +kernel
theorem dX7_errorPlace_4 : decode cX7_errorPlace 4 = .ok (.ireturn, 1) := by decide +kernel
theorem dX7_result_0 : decode cX7_result 0 = .ok (.aload_n 0, 1) := by decide +kernel
theorem dX7_result_1 : decode cX7_result 1 = .ok (.getfield 33, 3) := by decide +kernel
theorem dX7_result_4 : decode cX7_result 4 = .ok (.areturn, 1) := by decide +kernel
theorem dX7_read_0 : decode cX7_read 0 = .ok (.aload_n 0, 1) := by decide +kernel
theorem dX7_read_1 : decode cX7_read 1 = .ok (.getfield 33, 3) := by decide +kernel
theorem dX7_read_4 : decode cX7_read 4 = .ok (.invokevirtual 44, 3) := by decide +kernel
theorem dX7_read_7 : decode cX7_read 7 = .ok (.aload_n 0, 1) := by decide +kernel
theorem dX7_read_8 : decode cX7_read 8 = .ok (.iconst 0, 1) := by decide +kernel
theorem dX7_read_9 : decode cX7_read 9 = .ok (.iload_n 1, 1) := by decide +kernel
theorem dX7_read_10 : decode cX7_read 10 = .ok (.aload_n 0, 1) := by decide +kernel
theorem dX7_read_11 : decode cX7_read 11 = .ok (.getfield 37, 3) := by decide +kernel
theorem dX7_read_14 : decode cX7_read 14 = .ok (.invokestatic 47, 3) := by decide +kernel
theorem dX7_read_17 : decode cX7_read 17 = .ok (.invokestatic 53, 3) := by decide +kernel
theorem dX7_read_20 : decode cX7_read 20 = .ok (.putfield 56, 3) := by decide +kernel
theorem dX7_read_23 : decode cX7_read 23 = .ok (.aload_n 0, 1) := by decide +kernel
theorem dX7_read_24 : decode cX7_read 24 = .ok (.iconst 0, 1) := by decide +kernel
theorem dX7_read_25 : decode cX7_read 25 = .ok (.putfield 37, 3) := by decide +kernel
theorem dX7_read_28 : decode cX7_read 28 = .ok (.aload_n 0, 1) := by decide +kernel
theorem dX7_read_29 : decode cX7_read 29 = .ok (.iconst 0, 1) := by decide +kernel
theorem dX7_read_30 : decode cX7_read 30 = .ok (.putfield 59, 3) := by decide +kernel
theorem dX7_read_33 : decode cX7_read 33 = .ok (.aload_n 0, 1) := by decide +kernel
theorem dX7_read_34 : decode cX7_read 34 = .ok (.getfield 24, 3) := by decide +kernel
theorem dX7_read_37 : decode cX7_read 37 = .ok (.invokevirtual 62, 3) := by decide +kernel
theorem dX7_read_40 : decode cX7_read 40 = .ok (.aload_n 0, 1) := by decide +kernel
theorem dX7_read_41 : decode cX7_read 41 = .ok (.iconst 0, 1) := by decide +kernel
theorem dX7_read_42 : decode cX7_read 42 = .ok (.putfield 65, 3) := by decide +kernel
theorem dX7_read_45 : decode cX7_read 45 = .ok (.aload_n 0, 1) := by decide +kernel
theorem dX7_read_46 : decode cX7_read 46 = .ok (.iconst 0, 1) := by decide +kernel
theorem dX7_read_47 : decode cX7_read 47 = .ok (.putfield 69, 3) := by decide +kernel
theorem dX7_read_50 : decode cX7_read 50 = .ok (.aload_n 0, 1) := by decide +kernel
theorem dX7_read_51 : decode cX7_read 51 = .ok (.iconst (-1), 1) := by decide +kernel
theorem dX7_read_52 : decode cX7_read 52 = .ok (.putfield 41, 3) := by decide +kernel
theorem dX7_read_55 : decode cX7_read 55 = .ok (.aload_n 0, 1) := by decide +kernel
theorem dX7_read_56 : decode cX7_read 56 = .ok (.invokevirtual 72, 3) := by decide +kernel
theorem dX7_read_59 : decode cX7_read 59 = .ok (.aload_n 0, 1) := by decide +kernel
theorem dX7_read_60 : decode cX7_read 60 = .ok (.invokevirtual 75, 3) := by decide +kernel
theorem dX7_read_63 : decode cX7_read 63 = .ok (.ifCond .eq 37, 3) := by decide +kernel
theorem dX7_read_66 : decode cX7_read 66 = .ok (.iconst 0, 1) := by decide +kernel
theorem dX7_read_67 : decode cX7_read 67 = .ok (.istore_n 2, 1) := by decide +kernel
theorem dX7_read_68 : decode cX7_read 68 = .ok (.iload_n 2, 1) := by decide +kernel
theorem dX7_read_69 : decode cX7_read 69 = .ok (.sipush 700, 3) := by decide +kernel
theorem dX7_read_72 : decode cX7_read 72 = .ok (.if_icmp .ge 28, 3) := by decide +kernel
theorem dX7_read_75 : decode cX7_read 75 = .ok (.aload_n 0, 1) := by decide +kernel
theorem dX7_read_76 : decode cX7_read 76 = .ok (.getfield 69, 3) := by decide +kernel
theorem dX7_read_79 : decode cX7_read 79 = .ok (.ifCond .ne 21, 3) := by decide +kernel
theorem dX7_read_82 : decode cX7_read 82 = .ok (.aload_n 0, 1) := by decide +kernel
theorem dX7_read_83 : decode cX7_read 83 = .ok (.getfield 79, 3) := by decide +kernel
theorem dX7_read_86 : decode cX7_read 86 = .ok (.ifCond .eq 14, 3) := by decide +kernel
theorem dX7_read_89 : decode cX7_read 89 = .ok (.aload_n 0, 1) := by decide +kernel
theorem dX7_read_90 : decode cX7_read 90 = .ok (.invokevirtual 82, 3) := by decide +kernel
theorem dX7_read_93 : decode cX7_read 93 = .ok (.pop, 1) := by decide +kernel
theorem dX7_read_94 : decode cX7_read 94 = .ok (.iinc 2 1, 3) := by decide +kernel
theorem dX7_read_97 : decode cX7_read 97 = .ok (.goto (-29), 3) := by decide +kernel
theorem dX7_read_100 : decode cX7_read 100 = .ok (.aload_n 0, 1) := by decide +kernel
theorem dX7_read_101 : decode cX7_read 101 = .ok (.getfield 69, 3) := by decide +kernel
theorem dX7_read_104 : decode cX7_read 104 = .ok (.ireturn, 1) := by decide +kernel
theorem dX7_fail_0 : decode cX7_fail 0 = .ok (.aload_n 0, 1) := by decide +kernel
theorem dX7_fail_1 : decode cX7_fail 1 = .ok (.iload_n 1, 1) := by decide +kernel
theorem dX7_fail_2 : decode cX7_fail 2 = .ok (.putfield 69, 3) := by decide +kernel
theorem dX7_fail_5 : decode cX7_fail 5 = .ok (.aload_n 0, 1) := by decide +kernel
theorem dX7_fail_6 : decode cX7_fail 6 = .ok (.iload_n 2, 1) := by decide +kernel
theorem dX7_fail_7 : decode cX7_fail 7 = .ok (.putfield 41, 3) := by decide +kernel
theorem dX7_fail_10 : decode cX7_fail 10 = .ok (.iconst 0, 1) := by decide +kernel
theorem dX7_fail_11 : decode cX7_fail 11 = .ok (.ireturn, 1) := by decide +kernel
theorem dX7_advance_0 : decode cX7_advance 0 = .ok (.aload_n 0, 1) := by decide +kernel
theorem dX7_advance_1 : decode cX7_advance 1 = .ok (.getfield 59, 3) := by decide +kernel
theorem dX7_advance_4 : decode cX7_advance 4 = .ok (.istore_n 1, 1) := by decide +kernel
theorem dX7_advance_5 : decode cX7_advance 5 = .ok (.iload_n 1, 1) := by decide +kernel
theorem dX7_advance_6 : decode cX7_advance 6 = .ok (.aload_n 0, 1) := by decide +kernel
theorem dX7_advance_7 : decode cX7_advance 7 = .ok (.getfield 56, 3) := by decide +kernel
theorem dX7_advance_10 : decode cX7_advance 10 = .ok (.if_icmp .ge 27, 3) := by decide +kernel
theorem dX7_advance_13 : decode cX7_advance 13 = .ok (.iload_n 1, 1) := by decide +kernel
theorem dX7_advance_14 : decode cX7_advance 14 = .ok (.sipush 700, 3) := by decide +kernel
theorem dX7_advance_17 : decode cX7_advance 17 = .ok (.if_icmp .ge 20, 3) := by decide +kernel
theorem dX7_advance_20 : decode cX7_advance 20 = .ok (.aload_n 0, 1) := by decide +kernel
theorem dX7_advance_21 : decode cX7_advance 21 = .ok (.getfield 15, 3) := by decide +kernel
theorem dX7_advance_24 : decode cX7_advance 24 = .ok (.iload_n 1, 1) := by decide +kernel
theorem dX7_advance_25 : decode cX7_advance 25 = .ok (.iaload, 1) := by decide +kernel
theorem dX7_advance_26 : decode cX7_advance 26 = .ok (.bipush 32, 2) := by decide +kernel
theorem dX7_advance_28 : decode cX7_advance 28 = .ok (.if_icmp .ne 9, 3) := by decide +kernel
theorem dX7_advance_31 : decode cX7_advance 31 = .ok (.iinc 1 1, 3) := by decide +kernel
theorem dX7_advance_34 : decode cX7_advance 34 = .ok (.goto (-29), 3) := by decide +kernel
theorem dX7_advance_37 : decode cX7_advance 37 = .ok (.aload_n 0, 1) := by decide +kernel
theorem dX7_advance_38 : decode cX7_advance 38 = .ok (.iload_n 1, 1) := by decide +kernel
theorem dX7_advance_39 : decode cX7_advance 39 = .ok (.putfield 85, 3) := by decide +kernel
theorem dX7_advance_42 : decode cX7_advance 42 = .ok (.aload_n 0, 1) := by decide +kernel
theorem dX7_advance_43 : decode cX7_advance 43 = .ok (.iconst 0, 1) := by decide +kernel
theorem dX7_advance_44 : decode cX7_advance 44 = .ok (.putfield 88, 3) := by decide +kernel
theorem dX7_advance_47 : decode cX7_advance 47 = .ok (.aload_n 0, 1) := by decide +kernel
theorem dX7_advance_48 : decode cX7_advance 48 = .ok (.iconst 0, 1) := by decide +kernel
theorem dX7_advance_49 : decode cX7_advance 49 = .ok (.putfield 79, 3) := by decide +kernel
theorem dX7_advance_52 : decode cX7_advance 52 = .ok (.iload_n 1, 1) := by decide +kernel
theorem dX7_advance_53 : decode cX7_advance 53 = .ok (.aload_n 0, 1) := by decide +kernel
theorem dX7_advance_54 : decode cX7_advance 54 = .ok (.getfield 56, 3) := by decide +kernel
theorem dX7_advance_57 : decode cX7_advance 57 = .ok (.if_icmp .ge 10, 3) := by decide +kernel
theorem dX7_advance_60 : decode cX7_advance 60 = .ok (.iload_n 1, 1) := by decide +kernel
theorem dX7_advance_61 : decode cX7_advance 61 = .ok (.sipush 700, 3) := by decide +kernel
theorem dX7_advance_64 : decode cX7_advance 64 = .ok (.if_icmp .lt 9, 3) := by decide +kernel
theorem dX7_advance_67 : decode cX7_advance 67 = .ok (.aload_n 0, 1) := by decide +kernel
theorem dX7_advance_68 : decode cX7_advance 68 = .ok (.iload_n 1, 1) := by decide +kernel
theorem dX7_advance_69 : decode cX7_advance 69 = .ok (.putfield 59, 3) := by decide +kernel
theorem dX7_advance_72 : decode cX7_advance 72 = .ok (.return_, 1) := by decide +kernel
theorem dX7_advance_73 : decode cX7_advance 73 = .ok (.aload_n 0, 1) := by decide +kernel
theorem dX7_advance_74 : decode cX7_advance 74 = .ok (.aload_n 0, 1) := by decide +kernel
theorem dX7_advance_75 : decode cX7_advance 75 = .ok (.getfield 15, 3) := by decide +kernel
theorem dX7_advance_78 : decode cX7_advance 78 = .ok (.iload_n 1, 1) := by decide +kernel
theorem dX7_advance_79 : decode cX7_advance 79 = .ok (.iaload, 1) := by decide +kernel
theorem dX7_advance_80 : decode cX7_advance 80 = .ok (.invokestatic 91, 3) := by decide +kernel
theorem dX7_advance_83 : decode cX7_advance 83 = .ok (.ifCond .eq 7, 3) := by decide +kernel
theorem dX7_advance_86 : decode cX7_advance 86 = .ok (.iconst 1, 1) := by decide +kernel
theorem dX7_advance_87 : decode cX7_advance 87 = .ok (.goto 20, 3) := by decide +kernel
theorem dX7_advance_90 : decode cX7_advance 90 = .ok (.aload_n 0, 1) := by decide +kernel
theorem dX7_advance_91 : decode cX7_advance 91 = .ok (.getfield 15, 3) := by decide +kernel
theorem dX7_advance_94 : decode cX7_advance 94 = .ok (.iload_n 1, 1) := by decide +kernel
theorem dX7_advance_95 : decode cX7_advance 95 = .ok (.iaload, 1) := by decide +kernel
theorem dX7_advance_96 : decode cX7_advance 96 = .ok (.invokestatic 95, 3) := by decide +kernel
theorem dX7_advance_99 : decode cX7_advance 99 = .ok (.ifCond .eq 7, 3) := by decide +kernel
theorem dX7_advance_102 : decode cX7_advance 102 = .ok (.iconst 2, 1) := by decide +kernel
theorem dX7_advance_103 : decode cX7_advance 103 = .ok (.goto 4, 3) := by decide +kernel
theorem dX7_advance_106 : decode cX7_advance 106 = .ok (.iconst 3, 1) := by decide +kernel
theorem dX7_advance_107 : decode cX7_advance 107 = .ok (.putfield 79, 3) := by decide +kernel
theorem dX7_advance_110 : decode cX7_advance 110 = .ok (.aload_n 0, 1) := by decide +kernel
theorem dX7_advance_111 : decode cX7_advance 111 = .ok (.getfield 79, 3) := by decide +kernel
theorem dX7_advance_114 : decode cX7_advance 114 = .ok (.iconst 3, 1) := by decide +kernel
theorem dX7_advance_115 : decode cX7_advance 115 = .ok (.if_icmp .ne 11, 3) := by decide +kernel
theorem dX7_advance_118 : decode cX7_advance 118 = .ok (.aload_n 0, 1) := by decide +kernel
theorem dX7_advance_119 : decode cX7_advance 119 = .ok (.iload_n 1, 1) := by decide +kernel
theorem dX7_advance_120 : decode cX7_advance 120 = .ok (.iconst 1, 1) := by decide +kernel
theorem dX7_advance_121 : decode cX7_advance 121 = .ok (.iadd, 1) := by decide +kernel
theorem dX7_advance_122 : decode cX7_advance 122 = .ok (.putfield 59, 3) := by decide +kernel
theorem dX7_advance_125 : decode cX7_advance 125 = .ok (.return_, 1) := by decide +kernel
theorem dX7_advance_126 : decode cX7_advance 126 = .ok (.aload_n 0, 1) := by decide +kernel
theorem dX7_advance_127 : decode cX7_advance 127 = .ok (.getfield 79, 3) := by decide +kernel
theorem dX7_advance_130 : decode cX7_advance 130 = .ok (.iconst 1, 1) := by decide +kernel
theorem dX7_advance_131 : decode cX7_advance 131 = .ok (.if_icmp .ne 7, 3) := by decide +kernel
theorem dX7_advance_134 : decode cX7_advance 134 = .ok (.iconst 1, 1) := by decide +kernel
theorem dX7_advance_135 : decode cX7_advance 135 = .ok (.goto 4, 3) := by decide +kernel
theorem dX7_advance_138 : decode cX7_advance 138 = .ok (.iconst 0, 1) := by decide +kernel
theorem dX7_advance_139 : decode cX7_advance 139 = .ok (.istore_n 2, 1) := by decide +kernel
theorem dX7_advance_140 : decode cX7_advance 140 = .ok (.iload_n 1, 1) := by decide +kernel
theorem dX7_advance_141 : decode cX7_advance 141 = .ok (.aload_n 0, 1) := by decide +kernel
theorem dX7_advance_142 : decode cX7_advance 142 = .ok (.getfield 56, 3) := by decide +kernel
theorem dX7_advance_145 : decode cX7_advance 145 = .ok (.if_icmp .ge 81, 3) := by decide +kernel
theorem dX7_advance_148 : decode cX7_advance 148 = .ok (.iload_n 1, 1) := by decide +kernel
theorem dX7_advance_149 : decode cX7_advance 149 = .ok (.sipush 700, 3) := by decide +kernel
theorem dX7_advance_152 : decode cX7_advance 152 = .ok (.if_icmp .ge 74, 3) := by decide +kernel
theorem dX7_advance_155 : decode cX7_advance 155 = .ok (.iload_n 2, 1) := by decide +kernel
theorem dX7_advance_156 : decode cX7_advance 156 = .ok (.ifCond .eq 18, 3) := by decide +kernel
theorem dX7_advance_159 : decode cX7_advance 159 = .ok (.aload_n 0, 1) := by decide +kernel
theorem dX7_advance_160 : decode cX7_advance 160 = .ok (.getfield 15, 3) := by decide +kernel
theorem dX7_advance_163 : decode cX7_advance 163 = .ok (.iload_n 1, 1) := by decide +kernel
theorem dX7_advance_164 : decode cX7_advance 164 = .ok (.iaload, 1) := by decide +kernel
theorem dX7_advance_165 : decode cX7_advance 165 = .ok (.invokestatic 91, 3) := by decide +kernel
theorem dX7_advance_168 : decode cX7_advance 168 = .ok (.ifCond .eq 58, 3) := by decide +kernel
theorem dX7_advance_171 : decode cX7_advance 171 = .ok (.goto 15, 3) := by decide +kernel
theorem dX7_advance_174 : decode cX7_advance 174 = .ok (.aload_n 0, 1) := by decide +kernel
theorem dX7_advance_175 : decode cX7_advance 175 = .ok (.getfield 15, 3) := by decide +kernel
theorem dX7_advance_178 : decode cX7_advance 178 = .ok (.iload_n 1, 1) := by decide +kernel
theorem dX7_advance_179 : decode cX7_advance 179 = .ok (.iaload, 1) := by decide +kernel
theorem dX7_advance_180 : decode cX7_advance 180 = .ok (.invokestatic 95, 3) := by decide +kernel
theorem dX7_advance_183 : decode cX7_advance 183 = .ok (.ifCond .eq 43, 3) := by decide +kernel
theorem dX7_advance_186 : decode cX7_advance 186 = .ok (.aload_n 0, 1) := by decide +kernel
theorem dX7_advance_187 : decode cX7_advance 187 = .ok (.iload_n 2, 1) := by decide +kernel
theorem dX7_advance_188 : decode cX7_advance 188 = .ok (.ifCond .eq 28, 3) := by decide +kernel
theorem dX7_advance_191 : decode cX7_advance 191 = .ok (.ldc 98, 2) := by decide +kernel
theorem dX7_advance_193 : decode cX7_advance 193 = .ok (.aload_n 0, 1) := by decide +kernel
theorem dX7_advance_194 : decode cX7_advance 194 = .ok (.getfield 88, 3) := by decide +kernel
theorem dX7_advance_197 : decode cX7_advance 197 = .ok (.bipush 10, 2) := by decide +kernel
theorem dX7_advance_199 : decode cX7_advance 199 = .ok (.imul, 1) := by decide +kernel
theorem dX7_advance_200 : decode cX7_advance 200 = .ok (.aload_n 0, 1) := by decide +kernel
theorem dX7_advance_201 : decode cX7_advance 201 = .ok (.getfield 15, 3) := by decide +kernel
theorem dX7_advance_204 : decode cX7_advance 204 = .ok (.iload_n 1, 1) := by decide +kernel
theorem dX7_advance_205 : decode cX7_advance 205 = .ok (.iaload, 1) := by decide +kernel
theorem dX7_advance_206 : decode cX7_advance 206 = .ok (.iadd, 1) := by decide +kernel
theorem dX7_advance_207 : decode cX7_advance 207 = .ok (.bipush 48, 2) := by decide +kernel
theorem dX7_advance_209 : decode cX7_advance 209 = .ok (.isub, 1) := by decide +kernel
theorem dX7_advance_210 : decode cX7_advance 210 = .ok (.invokestatic 47, 3) := by decide +kernel
theorem dX7_advance_213 : decode cX7_advance 213 = .ok (.goto 4, 3) := by decide +kernel
theorem dX7_advance_216 : decode cX7_advance 216 = .ok (.iconst 0, 1) := by decide +kernel
theorem dX7_advance_217 : decode cX7_advance 217 = .ok (.putfield 88, 3) := by decide +kernel
theorem dX7_advance_220 : decode cX7_advance 220 = .ok (.iinc 1 1, 3) := by decide +kernel
theorem dX7_advance_223 : decode cX7_advance 223 = .ok (.goto (-83), 3) := by decide +kernel
theorem dX7_advance_226 : decode cX7_advance 226 = .ok (.aload_n 0, 1) := by decide +kernel
theorem dX7_advance_227 : decode cX7_advance 227 = .ok (.iload_n 1, 1) := by decide +kernel
theorem dX7_advance_228 : decode cX7_advance 228 = .ok (.putfield 59, 3) := by decide +kernel
theorem dX7_advance_231 : decode cX7_advance 231 = .ok (.return_, 1) := by decide +kernel
theorem dX7_isDigit_0 : decode cX7_isDigit 0 = .ok (.iload_n 0, 1) := by decide +kernel
theorem dX7_isDigit_1 : decode cX7_isDigit 1 = .ok (.bipush 48, 2) := by decide +kernel
theorem dX7_isDigit_3 : decode cX7_isDigit 3 = .ok (.if_icmp .lt 13, 3) := by decide +kernel
theorem dX7_isDigit_6 : decode cX7_isDigit 6 = .ok (.iload_n 0, 1) := by decide +kernel
theorem dX7_isDigit_7 : decode cX7_isDigit 7 = .ok (.bipush 57, 2) := by decide +kernel
theorem dX7_isDigit_9 : decode cX7_isDigit 9 = .ok (.if_icmp .gt 7, 3) := by decide +kernel
theorem dX7_isDigit_12 : decode cX7_isDigit 12 = .ok (.iconst 1, 1) := by decide +kernel
theorem dX7_isDigit_13 : decode cX7_isDigit 13 = .ok (.goto 4, 3) := by decide +kernel
theorem dX7_isDigit_16 : decode cX7_isDigit 16 = .ok (.iconst 0, 1) := by decide +kernel
theorem dX7_isDigit_17 : decode cX7_isDigit 17 = .ok (.ireturn, 1) := by decide +kernel
theorem dX7_isLetter_0 : decode cX7_isLetter 0 = .ok (.iload_n 0, 1) := by decide +kernel
theorem dX7_isLetter_1 : decode cX7_isLetter 1 = .ok (.bipush 97, 2) := by decide +kernel
theorem dX7_isLetter_3 : decode cX7_isLetter 3 = .ok (.if_icmp .lt 13, 3) := by decide +kernel
theorem dX7_isLetter_6 : decode cX7_isLetter 6 = .ok (.iload_n 0, 1) := by decide +kernel
theorem dX7_isLetter_7 : decode cX7_isLetter 7 = .ok (.bipush 122, 2) := by decide +kernel
theorem dX7_isLetter_9 : decode cX7_isLetter 9 = .ok (.if_icmp .gt 7, 3) := by decide +kernel
theorem dX7_isLetter_12 : decode cX7_isLetter 12 = .ok (.iconst 1, 1) := by decide +kernel
theorem dX7_isLetter_13 : decode cX7_isLetter 13 = .ok (.goto 4, 3) := by decide +kernel
theorem dX7_isLetter_16 : decode cX7_isLetter 16 = .ok (.iconst 0, 1) := by decide +kernel
theorem dX7_isLetter_17 : decode cX7_isLetter 17 = .ok (.ireturn, 1) := by decide +kernel
theorem dX7_isWord_0 : decode cX7_isWord 0 = .ok (.aload_n 0, 1) := by decide +kernel
theorem dX7_isWord_1 : decode cX7_isWord 1 = .ok (.getfield 79, 3) := by decide +kernel
theorem dX7_isWord_4 : decode cX7_isWord 4 = .ok (.iconst 2, 1) := by decide +kernel
theorem dX7_isWord_5 : decode cX7_isWord 5 = .ok (.if_icmp .ne 19, 3) := by decide +kernel
theorem dX7_isWord_8 : decode cX7_isWord 8 = .ok (.aload_n 0, 1) := by decide +kernel
theorem dX7_isWord_9 : decode cX7_isWord 9 = .ok (.getfield 59, 3) := by decide +kernel
theorem dX7_isWord_12 : decode cX7_isWord 12 = .ok (.aload_n 0, 1) := by decide +kernel
theorem dX7_isWord_13 : decode cX7_isWord 13 = .ok (.getfield 85, 3) := by decide +kernel
theorem dX7_isWord_16 : decode cX7_isWord 16 = .ok (.isub, 1) := by decide +kernel
theorem dX7_isWord_17 : decode cX7_isWord 17 = .ok (.aload_n 1, 1) := by decide +kernel
theorem dX7_isWord_18 : decode cX7_isWord 18 = .ok (.invokevirtual 99, 3) := by decide +kernel
theorem dX7_isWord_21 : decode cX7_isWord 21 = .ok (.if_icmp .eq 5, 3) := by decide +kernel
theorem dX7_isWord_24 : decode cX7_isWord 24 = .ok (.iconst 0, 1) := by decide +kernel
theorem dX7_isWord_25 : decode cX7_isWord 25 = .ok (.ireturn, 1) := by decide +kernel
theorem dX7_isWord_26 : decode cX7_isWord 26 = .ok (.iconst 0, 1) := by decide +kernel
theorem dX7_isWord_27 : decode cX7_isWord 27 = .ok (.istore_n 2, 1) := by decide +kernel
theorem dX7_isWord_28 : decode cX7_isWord 28 = .ok (.iload_n 2, 1) := by decide +kernel
theorem dX7_isWord_29 : decode cX7_isWord 29 = .ok (.aload_n 1, 1) := by decide +kernel
theorem dX7_isWord_30 : decode cX7_isWord 30 = .ok (.invokevirtual 99, 3) := by decide +kernel
theorem dX7_isWord_33 : decode cX7_isWord 33 = .ok (.if_icmp .ge 43, 3) := by decide +kernel
theorem dX7_isWord_36 : decode cX7_isWord 36 = .ok (.aload_n 0, 1) := by decide +kernel
theorem dX7_isWord_37 : decode cX7_isWord 37 = .ok (.getfield 85, 3) := by decide +kernel
theorem dX7_isWord_40 : decode cX7_isWord 40 = .ok (.iload_n 2, 1) := by decide +kernel
theorem dX7_isWord_41 : decode cX7_isWord 41 = .ok (.iadd, 1) := by decide +kernel
theorem dX7_isWord_42 : decode cX7_isWord 42 = .ok (.istore_n 3, 1) := by decide +kernel
theorem dX7_isWord_43 : decode cX7_isWord 43 = .ok (.iload_n 3, 1) := by decide +kernel
theorem dX7_isWord_44 : decode cX7_isWord 44 = .ok (.ifCond .lt 24, 3) := by decide +kernel
theorem dX7_isWord_47 : decode cX7_isWord 47 = .ok (.iload_n 3, 1) := by decide +kernel
theorem dX7_isWord_48 : decode cX7_isWord 48 = .ok (.sipush 700, 3) := by decide +kernel
theorem dX7_isWord_51 : decode cX7_isWord 51 = .ok (.if_icmp .ge 17, 3) := by decide +kernel
theorem dX7_isWord_54 : decode cX7_isWord 54 = .ok (.aload_n 0, 1) := by decide +kernel
theorem dX7_isWord_55 : decode cX7_isWord 55 = .ok (.getfield 15, 3) := by decide +kernel
theorem dX7_isWord_58 : decode cX7_isWord 58 = .ok (.iload_n 3, 1) := by decide +kernel
theorem dX7_isWord_59 : decode cX7_isWord 59 = .ok (.iaload, 1) := by decide +kernel
theorem dX7_isWord_60 : decode cX7_isWord 60 = .ok (.aload_n 1, 1) := by decide +kernel
theorem dX7_isWord_61 : decode cX7_isWord 61 = .ok (.iload_n 2, 1) := by decide +kernel
theorem dX7_isWord_62 : decode cX7_isWord 62 = .ok (.invokevirtual 104, 3) := by decide +kernel
theorem dX7_isWord_65 : decode cX7_isWord 65 = .ok (.if_icmp .eq 5, 3) := by decide +kernel
theorem dX7_isWord_68 : decode cX7_isWord 68 = .ok (.iconst 0, 1) := by decide +kernel
theorem dX7_isWord_69 : decode cX7_isWord 69 = .ok (.ireturn, 1) := by decide +kernel
theorem dX7_isWord_70 : decode cX7_isWord 70 = .ok (.iinc 2 1, 3) := by decide +kernel
theorem dX7_isWord_73 : decode cX7_isWord 73 = .ok (.goto (-45), 3) := by decide +kernel
theorem dX7_isWord_76 : decode cX7_isWord 76 = .ok (.iconst 1, 1) := by decide +kernel
theorem dX7_isWord_77 : decode cX7_isWord 77 = .ok (.ireturn, 1) := by decide +kernel
theorem dX7_isSign_0 : decode cX7_isSign 0 = .ok (.aload_n 0, 1) := by decide +kernel
theorem dX7_isSign_1 : decode cX7_isSign 1 = .ok (.getfield 79, 3) := by decide +kernel
theorem dX7_isSign_4 : decode cX7_isSign 4 = .ok (.iconst 3, 1) := by decide +kernel
theorem dX7_isSign_5 : decode cX7_isSign 5 = .ok (.if_icmp .ne 37, 3) := by decide +kernel
theorem dX7_isSign_8 : decode cX7_isSign 8 = .ok (.aload_n 0, 1) := by decide +kernel
theorem dX7_isSign_9 : decode cX7_isSign 9 = .ok (.getfield 85, 3) := by decide +kernel
theorem dX7_isSign_12 : decode cX7_isSign 12 = .ok (.ifCond .lt 30, 3) := by decide +kernel
theorem dX7_isSign_15 : decode cX7_isSign 15 = .ok (.aload_n 0, 1) := by decide +kernel
theorem dX7_isSign_16 : decode cX7_isSign 16 = .ok (.getfield 85, 3) := by decide +kernel
theorem dX7_isSign_19 : decode cX7_isSign 19 = .ok (.sipush 700, 3) := by decide +kernel
theorem dX7_isSign_22 : decode cX7_isSign 22 = .ok (.if_icmp .ge 20, 3) := by decide +kernel
theorem dX7_isSign_25 : decode cX7_isSign 25 = .ok (.aload_n 0, 1) := by decide +kernel
theorem dX7_isSign_26 : decode cX7_isSign 26 = .ok (.getfield 15, 3) := by decide +kernel
theorem dX7_isSign_29 : decode cX7_isSign 29 = .ok (.aload_n 0, 1) := by decide +kernel
theorem dX7_isSign_30 : decode cX7_isSign 30 = .ok (.getfield 85, 3) := by decide +kernel
theorem dX7_isSign_33 : decode cX7_isSign 33 = .ok (.iaload, 1) := by decide +kernel
theorem dX7_isSign_34 : decode cX7_isSign 34 = .ok (.iload_n 1, 1) := by decide +kernel
theorem dX7_isSign_35 : decode cX7_isSign 35 = .ok (.if_icmp .ne 7, 3) := by decide +kernel
theorem dX7_isSign_38 : decode cX7_isSign 38 = .ok (.iconst 1, 1) := by decide +kernel
theorem dX7_isSign_39 : decode cX7_isSign 39 = .ok (.goto 4, 3) := by decide +kernel
theorem dX7_isSign_42 : decode cX7_isSign 42 = .ok (.iconst 0, 1) := by decide +kernel
theorem dX7_isSign_43 : decode cX7_isSign 43 = .ok (.ireturn, 1) := by decide +kernel
theorem dX7_takeSign_0 : decode cX7_takeSign 0 = .ok (.aload_n 0, 1) := by decide +kernel
theorem dX7_takeSign_1 : decode cX7_takeSign 1 = .ok (.iload_n 1, 1) := by decide +kernel
theorem dX7_takeSign_2 : decode cX7_takeSign 2 = .ok (.invokevirtual 108, 3) := by decide +kernel
theorem dX7_takeSign_5 : decode cX7_takeSign 5 = .ok (.ifCond .ne 14, 3) := by decide +kernel
theorem dX7_takeSign_8 : decode cX7_takeSign 8 = .ok (.aload_n 0, 1) := by decide +kernel
theorem dX7_takeSign_9 : decode cX7_takeSign 9 = .ok (.bipush (-2), 2) := by decide +kernel
theorem dX7_takeSign_11 : decode cX7_takeSign 11 = .ok (.aload_n 0, 1) := by decide +kernel
theorem dX7_takeSign_12 : decode cX7_takeSign 12 = .ok (.getfield 85, 3) := by decide +kernel
theorem dX7_takeSign_15 : decode cX7_takeSign 15 = .ok (.invokevirtual 112, 3) := by decide +kernel
theorem dX7_takeSign_18 : decode cX7_takeSign 18 = .ok (.ireturn, 1) := by decide +kernel
theorem dX7_takeSign_19 : decode cX7_takeSign 19 = .ok (.aload_n 0, 1) := by decide +kernel
theorem dX7_takeSign_20 : decode cX7_takeSign 20 = .ok (.invokevirtual 72, 3) := by decide +kernel
theorem dX7_takeSign_23 : decode cX7_takeSign 23 = .ok (.iconst 1, 1) := by decide +kernel
theorem dX7_takeSign_24 : decode cX7_takeSign 24 = .ok (.ireturn, 1) := by decide +kernel
theorem dX7_takeNumber_0 : decode cX7_takeNumber 0 = .ok (.aload_n 0, 1) := by decide +kernel
theorem dX7_takeNumber_1 : decode cX7_takeNumber 1 = .ok (.getfield 79, 3) := by decide +kernel
theorem dX7_takeNumber_4 : decode cX7_takeNumber 4 = .ok (.iconst 1, 1) := by decide +kernel
theorem dX7_takeNumber_5 : decode cX7_takeNumber 5 = .ok (.if_icmp .eq 14, 3) := by decide +kernel
theorem dX7_takeNumber_8 : decode cX7_takeNumber 8 = .ok (.aload_n 0, 1) := by decide +kernel
theorem dX7_takeNumber_9 : decode cX7_takeNumber 9 = .ok (.bipush (-2), 2) := by decide +kernel
theorem dX7_takeNumber_11 : decode cX7_takeNumber 11 = .ok (.aload_n 0, 1) := by decide +kernel
theorem dX7_takeNumber_12 : decode cX7_takeNumber 12 = .ok (.getfield 85, 3) := by decide +kernel
theorem dX7_takeNumber_15 : decode cX7_takeNumber 15 = .ok (.invokevirtual 112, 3) := by decide +kernel
theorem dX7_takeNumber_18 : decode cX7_takeNumber 18 = .ok (.ireturn, 1) := by decide +kernel
theorem dX7_takeNumber_19 : decode cX7_takeNumber 19 = .ok (.aload_n 0, 1) := by decide +kernel
theorem dX7_takeNumber_20 : decode cX7_takeNumber 20 = .ok (.getfield 88, 3) := by decide +kernel
theorem dX7_takeNumber_23 : decode cX7_takeNumber 23 = .ok (.iload_n 1, 1) := by decide +kernel
theorem dX7_takeNumber_24 : decode cX7_takeNumber 24 = .ok (.if_icmp .lt 11, 3) := by decide +kernel
theorem dX7_takeNumber_27 : decode cX7_takeNumber 27 = .ok (.aload_n 0, 1) := by decide +kernel
theorem dX7_takeNumber_28 : decode cX7_takeNumber 28 = .ok (.getfield 88, 3) := by decide +kernel
theorem dX7_takeNumber_31 : decode cX7_takeNumber 31 = .ok (.iload_n 2, 1) := by decide +kernel
theorem dX7_takeNumber_32 : decode cX7_takeNumber 32 = .ok (.if_icmp .le 14, 3) := by decide +kernel
theorem dX7_takeNumber_35 : decode cX7_takeNumber 35 = .ok (.aload_n 0, 1) := by decide +kernel
theorem dX7_takeNumber_36 : decode cX7_takeNumber 36 = .ok (.bipush (-3), 2) := by decide +kernel
theorem dX7_takeNumber_38 : decode cX7_takeNumber 38 = .ok (.aload_n 0, 1) := by decide +kernel
theorem dX7_takeNumber_39 : decode cX7_takeNumber 39 = .ok (.getfield 85, 3) := by decide +kernel
theorem dX7_takeNumber_42 : decode cX7_takeNumber 42 = .ok (.invokevirtual 112, 3) := by decide +kernel
theorem dX7_takeNumber_45 : decode cX7_takeNumber 45 = .ok (.ireturn, 1) := by decide +kernel
theorem dX7_takeNumber_46 : decode cX7_takeNumber 46 = .ok (.aload_n 0, 1) := by decide +kernel
theorem dX7_takeNumber_47 : decode cX7_takeNumber 47 = .ok (.aload_n 0, 1) := by decide +kernel
theorem dX7_takeNumber_48 : decode cX7_takeNumber 48 = .ok (.getfield 88, 3) := by decide +kernel
theorem dX7_takeNumber_51 : decode cX7_takeNumber 51 = .ok (.putfield 116, 3) := by decide +kernel
theorem dX7_takeNumber_54 : decode cX7_takeNumber 54 = .ok (.aload_n 0, 1) := by decide +kernel
theorem dX7_takeNumber_55 : decode cX7_takeNumber 55 = .ok (.invokevirtual 72, 3) := by decide +kernel
theorem dX7_takeNumber_58 : decode cX7_takeNumber 58 = .ok (.iconst 1, 1) := by decide +kernel
theorem dX7_takeNumber_59 : decode cX7_takeNumber 59 = .ok (.ireturn, 1) := by decide +kernel
theorem dX7_takeElement_0 : decode cX7_takeElement 0 = .ok (.aload_n 0, 1) := by decide +kernel
theorem dX7_takeElement_1 : decode cX7_takeElement 1 = .ok (.getfield 79, 3) := by decide +kernel
theorem dX7_takeElement_4 : decode cX7_takeElement 4 = .ok (.iconst 1, 1) := by decide +kernel
theorem dX7_takeElement_5 : decode cX7_takeElement 5 = .ok (.if_icmp .eq 14, 3) := by decide +kernel
theorem dX7_takeElement_8 : decode cX7_takeElement 8 = .ok (.aload_n 0, 1) := by decide +kernel
theorem dX7_takeElement_9 : decode cX7_takeElement 9 = .ok (.bipush (-2), 2) := by decide +kernel
theorem dX7_takeElement_11 : decode cX7_takeElement 11 = .ok (.aload_n 0, 1) := by decide +kernel
theorem dX7_takeElement_12 : decode cX7_takeElement 12 = .ok (.getfield 85, 3) := by decide +kernel
theorem dX7_takeElement_15 : decode cX7_takeElement 15 = .ok (.invokevirtual 112, 3) := by decide +kernel
theorem dX7_takeElement_18 : decode cX7_takeElement 18 = .ok (.ireturn, 1) := by decide +kernel
theorem dX7_takeElement_19 : decode cX7_takeElement 19 = .ok (.aload_n 0, 1) := by decide +kernel
theorem dX7_takeElement_20 : decode cX7_takeElement 20 = .ok (.aload_n 0, 1) := by decide +kernel
theorem dX7_takeElement_21 : decode cX7_takeElement 21 = .ok (.getfield 9, 3) := by decide +kernel
theorem dX7_takeElement_24 : decode cX7_takeElement 24 = .ok (.aload_n 0, 1) := by decide +kernel
theorem dX7_takeElement_25 : decode cX7_takeElement 25 = .ok (.getfield 88, 3) := by decide +kernel
theorem dX7_takeElement_28 : decode cX7_takeElement 28 = .ok (.aload_n 0, 1) := by decide +kernel
theorem dX7_takeElement_29 : decode cX7_takeElement 29 = .ok (.getfield 33, 3) := by decide +kernel
theorem dX7_takeElement_32 : decode cX7_takeElement 32 = .ok (.getfield 119, 3) := by decide +kernel
theorem dX7_takeElement_35 : decode cX7_takeElement 35 = .ok (.invokevirtual 122, 3) := by decide +kernel
theorem dX7_takeElement_38 : decode cX7_takeElement 38 = .ok (.putfield 116, 3) := by decide +kernel
theorem dX7_takeElement_41 : decode cX7_takeElement 41 = .ok (.aload_n 0, 1) := by decide +kernel
theorem dX7_takeElement_42 : decode cX7_takeElement 42 = .ok (.getfield 116, 3) := by decide +kernel
theorem dX7_takeElement_45 : decode cX7_takeElement 45 = .ok (.iconst (-1), 1) := by decide +kernel
theorem dX7_takeElement_46 : decode cX7_takeElement 46 = .ok (.if_icmp .ne 14, 3) := by decide +kernel
theorem dX7_takeElement_49 : decode cX7_takeElement 49 = .ok (.aload_n 0, 1) := by decide +kernel
theorem dX7_takeElement_50 : decode cX7_takeElement 50 = .ok (.bipush (-3), 2) := by decide +kernel
theorem dX7_takeElement_52 : decode cX7_takeElement 52 = .ok (.aload_n 0, 1) := by decide +kernel
theorem dX7_takeElement_53 : decode cX7_takeElement 53 = .ok (.getfield 85, 3) := by decide +kernel
theorem dX7_takeElement_56 : decode cX7_takeElement 56 = .ok (.invokevirtual 112, 3) := by decide +kernel
theorem dX7_takeElement_59 : decode cX7_takeElement 59 = .ok (.ireturn, 1) := by decide +kernel
theorem dX7_takeElement_60 : decode cX7_takeElement 60 = .ok (.aload_n 0, 1) := by decide +kernel
theorem dX7_takeElement_61 : decode cX7_takeElement 61 = .ok (.invokevirtual 72, 3) := by decide +kernel
theorem dX7_takeElement_64 : decode cX7_takeElement 64 = .ok (.iconst 1, 1) := by decide +kernel
theorem dX7_takeElement_65 : decode cX7_takeElement 65 = .ok (.ireturn, 1) := by decide +kernel
theorem dX7_takeGroup_0 : decode cX7_takeGroup 0 = .ok (.aload_n 0, 1) := by decide +kernel
theorem dX7_takeGroup_1 : decode cX7_takeGroup 1 = .ok (.ldc 127, 2) := by decide +kernel
theorem dX7_takeGroup_3 : decode cX7_takeGroup 3 = .ok (.invokevirtual 128, 3) := by decide +kernel
theorem dX7_takeGroup_6 : decode cX7_takeGroup 6 = .ok (.ifCond .ne 14, 3) := by decide +kernel
theorem dX7_takeGroup_9 : decode cX7_takeGroup 9 = .ok (.aload_n 0, 1) := by decide +kernel
theorem dX7_takeGroup_10 : decode cX7_takeGroup 10 = .ok (.bipush (-2), 2) := by decide +kernel
theorem dX7_takeGroup_12 : decode cX7_takeGroup 12 = .ok (.aload_n 0, 1) := by decide +kernel
theorem dX7_takeGroup_13 : decode cX7_takeGroup 13 = .ok (.getfield 85, 3) := by decide +kernel
theorem dX7_takeGroup_16 : decode cX7_takeGroup 16 = .ok (.invokevirtual 112, 3) := by decide +kernel
theorem dX7_takeGroup_19 : decode cX7_takeGroup 19 = .ok (.ireturn, 1) := by decide +kernel
theorem dX7_takeGroup_20 : decode cX7_takeGroup 20 = .ok (.aload_n 0, 1) := by decide +kernel
theorem dX7_takeGroup_21 : decode cX7_takeGroup 21 = .ok (.invokevirtual 72, 3) := by decide +kernel
theorem dX7_takeGroup_24 : decode cX7_takeGroup 24 = .ok (.aload_n 0, 1) := by decide +kernel
theorem dX7_takeGroup_25 : decode cX7_takeGroup 25 = .ok (.iconst 2, 1) := by decide +kernel
theorem dX7_takeGroup_26 : decode cX7_takeGroup 26 = .ok (.iconst 5, 1) := by decide +kernel
theorem dX7_takeGroup_27 : decode cX7_takeGroup 27 = .ok (.invokevirtual 132, 3) := by decide +kernel
theorem dX7_takeGroup_30 : decode cX7_takeGroup 30 = .ok (.ifCond .ne 5, 3) := by decide +kernel
theorem dX7_takeGroup_33 : decode cX7_takeGroup 33 = .ok (.iconst 0, 1) := by decide +kernel
theorem dX7_takeGroup_34 : decode cX7_takeGroup 34 = .ok (.ireturn, 1) := by decide +kernel
theorem dX7_takeGroup_35 : decode cX7_takeGroup 35 = .ok (.aload_n 0, 1) := by decide +kernel
theorem dX7_takeGroup_36 : decode cX7_takeGroup 36 = .ok (.getfield 33, 3) := by decide +kernel
theorem dX7_takeGroup_39 : decode cX7_takeGroup 39 = .ok (.aload_n 0, 1) := by decide +kernel
theorem dX7_takeGroup_40 : decode cX7_takeGroup 40 = .ok (.getfield 116, 3) := by decide +kernel
theorem dX7_takeGroup_43 : decode cX7_takeGroup 43 = .ok (.putfield 119, 3) := by decide +kernel
theorem dX7_takeGroup_46 : decode cX7_takeGroup 46 = .ok (.aload_n 0, 1) := by decide +kernel
theorem dX7_takeGroup_47 : decode cX7_takeGroup 47 = .ok (.bipush 59, 2) := by decide +kernel
theorem dX7_takeGroup_49 : decode cX7_takeGroup 49 = .ok (.invokevirtual 135, 3) := by decide +kernel
theorem dX7_takeGroup_52 : decode cX7_takeGroup 52 = .ok (.ireturn, 1) := by decide +kernel
theorem dX7_takeStatement_0 : decode cX7_takeStatement 0 = .ok (.aload_n 0, 1) := by decide +kernel
theorem dX7_takeStatement_1 : decode cX7_takeStatement 1 = .ok (.ldc 138, 2) := by decide +kernel
theorem dX7_takeStatement_3 : decode cX7_takeStatement 3 = .ok (.invokevirtual 128, 3) := by decide +kernel
theorem dX7_takeStatement_6 : decode cX7_takeStatement 6 = .ok (.ifCond .eq 25, 3) := by decide +kernel
theorem dX7_takeStatement_9 : decode cX7_takeStatement 9 = .ok (.aload_n 0, 1) := by decide +kernel
theorem dX7_takeStatement_10 : decode cX7_takeStatement 10 = .ok (.invokevirtual 140, 3) := by decide +kernel
theorem dX7_takeStatement_13 : decode cX7_takeStatement 13 = .ok (.ifCond .eq 16, 3) := by decide +kernel
theorem dX7_takeStatement_16 : decode cX7_takeStatement 16 = .ok (.aload_n 0, 1) := by decide +kernel
theorem dX7_takeStatement_17 : decode cX7_takeStatement 17 = .ok (.bipush 59, 2) := by decide +kernel
theorem dX7_takeStatement_19 : decode cX7_takeStatement 19 = .ok (.invokevirtual 135, 3) := by decide +kernel
theorem dX7_takeStatement_22 : decode cX7_takeStatement 22 = .ok (.ifCond .eq 7, 3) := by decide +kernel
theorem dX7_takeStatement_25 : decode cX7_takeStatement 25 = .ok (.iconst 1, 1) := by decide +kernel
theorem dX7_takeStatement_26 : decode cX7_takeStatement 26 = .ok (.goto 4, 3) := by decide +kernel
theorem dX7_takeStatement_29 : decode cX7_takeStatement 29 = .ok (.iconst 0, 1) := by decide +kernel
theorem dX7_takeStatement_30 : decode cX7_takeStatement 30 = .ok (.ireturn, 1) := by decide +kernel
theorem dX7_takeStatement_31 : decode cX7_takeStatement 31 = .ok (.aload_n 0, 1) := by decide +kernel
theorem dX7_takeStatement_32 : decode cX7_takeStatement 32 = .ok (.ldc 143, 2) := by decide +kernel
theorem dX7_takeStatement_34 : decode cX7_takeStatement 34 = .ok (.invokevirtual 128, 3) := by decide +kernel
theorem dX7_takeStatement_37 : decode cX7_takeStatement 37 = .ok (.ifCond .eq 25, 3) := by decide +kernel
theorem dX7_takeStatement_40 : decode cX7_takeStatement 40 = .ok (.aload_n 0, 1) := by decide +kernel
theorem dX7_takeStatement_41 : decode cX7_takeStatement 41 = .ok (.invokevirtual 145, 3) := by decide +kernel
theorem dX7_takeStatement_44 : decode cX7_takeStatement 44 = .ok (.ifCond .eq 16, 3) := by decide +kernel
theorem dX7_takeStatement_47 : decode cX7_takeStatement 47 = .ok (.aload_n 0, 1) := by decide +kernel
theorem dX7_takeStatement_48 : decode cX7_takeStatement 48 = .ok (.bipush 59, 2) := by decide +kernel
theorem dX7_takeStatement_50 : decode cX7_takeStatement 50 = .ok (.invokevirtual 135, 3) := by decide +kernel
theorem dX7_takeStatement_53 : decode cX7_takeStatement 53 = .ok (.ifCond .eq 7, 3) := by decide +kernel
theorem dX7_takeStatement_56 : decode cX7_takeStatement 56 = .ok (.iconst 1, 1) := by decide +kernel
theorem dX7_takeStatement_57 : decode cX7_takeStatement 57 = .ok (.goto 4, 3) := by decide +kernel
theorem dX7_takeStatement_60 : decode cX7_takeStatement 60 = .ok (.iconst 0, 1) := by decide +kernel
theorem dX7_takeStatement_61 : decode cX7_takeStatement 61 = .ok (.ireturn, 1) := by decide +kernel
theorem dX7_takeStatement_62 : decode cX7_takeStatement 62 = .ok (.aload_n 0, 1) := by decide +kernel
theorem dX7_takeStatement_63 : decode cX7_takeStatement 63 = .ok (.ldc 148, 2) := by decide +kernel
theorem dX7_takeStatement_65 : decode cX7_takeStatement 65 = .ok (.invokevirtual 128, 3) := by decide +kernel
theorem dX7_takeStatement_68 : decode cX7_takeStatement 68 = .ok (.ifCond .eq 25, 3) := by decide +kernel
theorem dX7_takeStatement_71 : decode cX7_takeStatement 71 = .ok (.aload_n 0, 1) := by decide +kernel
theorem dX7_takeStatement_72 : decode cX7_takeStatement 72 = .ok (.invokevirtual 150, 3) := by decide +kernel
theorem dX7_takeStatement_75 : decode cX7_takeStatement 75 = .ok (.ifCond .eq 16, 3) := by decide +kernel
theorem dX7_takeStatement_78 : decode cX7_takeStatement 78 = .ok (.aload_n 0, 1) := by decide +kernel
theorem dX7_takeStatement_79 : decode cX7_takeStatement 79 = .ok (.bipush 59, 2) := by decide +kernel
theorem dX7_takeStatement_81 : decode cX7_takeStatement 81 = .ok (.invokevirtual 135, 3) := by decide +kernel
theorem dX7_takeStatement_84 : decode cX7_takeStatement 84 = .ok (.ifCond .eq 7, 3) := by decide +kernel
theorem dX7_takeStatement_87 : decode cX7_takeStatement 87 = .ok (.iconst 1, 1) := by decide +kernel
theorem dX7_takeStatement_88 : decode cX7_takeStatement 88 = .ok (.goto 4, 3) := by decide +kernel
theorem dX7_takeStatement_91 : decode cX7_takeStatement 91 = .ok (.iconst 0, 1) := by decide +kernel
theorem dX7_takeStatement_92 : decode cX7_takeStatement 92 = .ok (.ireturn, 1) := by decide +kernel
theorem dX7_takeStatement_93 : decode cX7_takeStatement 93 = .ok (.aload_n 0, 1) := by decide +kernel
theorem dX7_takeStatement_94 : decode cX7_takeStatement 94 = .ok (.ldc 153, 2) := by decide +kernel
theorem dX7_takeStatement_96 : decode cX7_takeStatement 96 = .ok (.invokevirtual 128, 3) := by decide +kernel
theorem dX7_takeStatement_99 : decode cX7_takeStatement 99 = .ok (.ifCond .eq 32, 3) := by decide +kernel
theorem dX7_takeStatement_102 : decode cX7_takeStatement 102 = .ok (.aload_n 0, 1) := by decide +kernel
theorem dX7_takeStatement_103 : decode cX7_takeStatement 103 = .ok (.getfield 65, 3) := by decide +kernel
theorem dX7_takeStatement_106 : decode cX7_takeStatement 106 = .ok (.ifCond .ne 25, 3) := by decide +kernel
theorem dX7_takeStatement_109 : decode cX7_takeStatement 109 = .ok (.aload_n 0, 1) := by decide +kernel
theorem dX7_takeStatement_110 : decode cX7_takeStatement 110 = .ok (.invokevirtual 155, 3) := by decide +kernel
theorem dX7_takeStatement_113 : decode cX7_takeStatement 113 = .ok (.ifCond .eq 16, 3) := by decide +kernel
theorem dX7_takeStatement_116 : decode cX7_takeStatement 116 = .ok (.aload_n 0, 1) := by decide +kernel
theorem dX7_takeStatement_117 : decode cX7_takeStatement 117 = .ok (.bipush 59, 2) := by decide +kernel
theorem dX7_takeStatement_119 : decode cX7_takeStatement 119 = .ok (.invokevirtual 135, 3) := by decide +kernel
theorem dX7_takeStatement_122 : decode cX7_takeStatement 122 = .ok (.ifCond .eq 7, 3) := by decide +kernel
theorem dX7_takeStatement_125 : decode cX7_takeStatement 125 = .ok (.iconst 1, 1) := by decide +kernel
theorem dX7_takeStatement_126 : decode cX7_takeStatement 126 = .ok (.goto 4, 3) := by decide +kernel
theorem dX7_takeStatement_129 : decode cX7_takeStatement 129 = .ok (.iconst 0, 1) := by decide +kernel
theorem dX7_takeStatement_130 : decode cX7_takeStatement 130 = .ok (.ireturn, 1) := by decide +kernel
theorem dX7_takeStatement_131 : decode cX7_takeStatement 131 = .ok (.aload_n 0, 1) := by decide +kernel
theorem dX7_takeStatement_132 : decode cX7_takeStatement 132 = .ok (.bipush (-2), 2) := by decide +kernel
theorem dX7_takeStatement_134 : decode cX7_takeStatement 134 = .ok (.aload_n 0, 1) := by decide +kernel
theorem dX7_takeStatement_135 : decode cX7_takeStatement 135 = .ok (.getfield 85, 3) := by decide +kernel
theorem dX7_takeStatement_138 : decode cX7_takeStatement 138 = .ok (.invokevirtual 112, 3) := by decide +kernel
theorem dX7_takeStatement_141 : decode cX7_takeStatement 141 = .ok (.ireturn, 1) := by decide +kernel
theorem dX7_takePlayer_0 : decode cX7_takePlayer 0 = .ok (.aload_n 0, 1) := by decide +kernel
theorem dX7_takePlayer_1 : decode cX7_takePlayer 1 = .ok (.getfield 33, 3) := by decide +kernel
theorem dX7_takePlayer_4 : decode cX7_takePlayer 4 = .ok (.getfield 158, 3) := by decide +kernel
theorem dX7_takePlayer_7 : decode cX7_takePlayer 7 = .ok (.iconst 5, 1) := by decide +kernel
theorem dX7_takePlayer_8 : decode cX7_takePlayer 8 = .ok (.if_icmp .lt 14, 3) := by decide +kernel
theorem dX7_takePlayer_11 : decode cX7_takePlayer 11 = .ok (.aload_n 0, 1) := by decide +kernel
theorem dX7_takePlayer_12 : decode cX7_takePlayer 12 = .ok (.bipush (-4), 2) := by decide +kernel
theorem dX7_takePlayer_14 : decode cX7_takePlayer 14 = .ok (.aload_n 0, 1) := by decide +kernel
theorem dX7_takePlayer_15 : decode cX7_takePlayer 15 = .ok (.getfield 85, 3) := by decide +kernel
theorem dX7_takePlayer_18 : decode cX7_takePlayer 18 = .ok (.invokevirtual 112, 3) := by decide +kernel
theorem dX7_takePlayer_21 : decode cX7_takePlayer 21 = .ok (.ireturn, 1) := by decide +kernel
theorem dX7_takePlayer_22 : decode cX7_takePlayer 22 = .ok (.aload_n 0, 1) := by decide +kernel
theorem dX7_takePlayer_23 : decode cX7_takePlayer 23 = .ok (.invokevirtual 72, 3) := by decide +kernel
theorem dX7_takePlayer_26 : decode cX7_takePlayer 26 = .ok (.aload_n 0, 1) := by decide +kernel
theorem dX7_takePlayer_27 : decode cX7_takePlayer 27 = .ok (.iconst 0, 1) := by decide +kernel
theorem dX7_takePlayer_28 : decode cX7_takePlayer 28 = .ok (.ldc 161, 2) := by decide +kernel
theorem dX7_takePlayer_30 : decode cX7_takePlayer 30 = .ok (.invokevirtual 132, 3) := by decide +kernel
theorem dX7_takePlayer_33 : decode cX7_takePlayer 33 = .ok (.ifCond .ne 5, 3) := by decide +kernel
theorem dX7_takePlayer_36 : decode cX7_takePlayer 36 = .ok (.iconst 0, 1) := by decide +kernel
theorem dX7_takePlayer_37 : decode cX7_takePlayer 37 = .ok (.ireturn, 1) := by decide +kernel
theorem dX7_takePlayer_38 : decode cX7_takePlayer 38 = .ok (.aload_n 0, 1) := by decide +kernel
theorem dX7_takePlayer_39 : decode cX7_takePlayer 39 = .ok (.getfield 33, 3) := by decide +kernel
theorem dX7_takePlayer_42 : decode cX7_takePlayer 42 = .ok (.aload_n 0, 1) := by decide +kernel
theorem dX7_takePlayer_43 : decode cX7_takePlayer 43 = .ok (.getfield 116, 3) := by decide +kernel
theorem dX7_takePlayer_46 : decode cX7_takePlayer 46 = .ok (.invokevirtual 162, 3) := by decide +kernel
theorem dX7_takePlayer_49 : decode cX7_takePlayer 49 = .ok (.iconst 1, 1) := by decide +kernel
theorem dX7_takePlayer_50 : decode cX7_takePlayer 50 = .ok (.ireturn, 1) := by decide +kernel
theorem dX7_takeCard_0 : decode cX7_takeCard 0 = .ok (.aload_n 0, 1) := by decide +kernel
theorem dX7_takeCard_1 : decode cX7_takeCard 1 = .ok (.invokevirtual 72, 3) := by decide +kernel
theorem dX7_takeCard_4 : decode cX7_takeCard 4 = .ok (.aload_n 0, 1) := by decide +kernel
theorem dX7_takeCard_5 : decode cX7_takeCard 5 = .ok (.getfield 85, 3) := by decide +kernel
theorem dX7_takeCard_8 : decode cX7_takeCard 8 = .ok (.istore_n 1, 1) := by decide +kernel
theorem dX7_takeCard_9 : decode cX7_takeCard 9 = .ok (.aload_n 0, 1) := by decide +kernel
theorem dX7_takeCard_10 : decode cX7_takeCard 10 = .ok (.iconst 0, 1) := by decide +kernel
theorem dX7_takeCard_11 : decode cX7_takeCard 11 = .ok (.aload_n 0, 1) := by decide +kernel
theorem dX7_takeCard_12 : decode cX7_takeCard 12 = .ok (.getfield 33, 3) := by decide +kernel
theorem dX7_takeCard_15 : decode cX7_takeCard 15 = .ok (.getfield 158, 3) := by decide +kernel
theorem dX7_takeCard_18 : decode cX7_takeCard 18 = .ok (.iconst 1, 1) := by decide +kernel
theorem dX7_takeCard_19 : decode cX7_takeCard 19 = .ok (.isub, 1) := by decide +kernel
theorem dX7_takeCard_20 : decode cX7_takeCard 20 = .ok (.invokevirtual 132, 3) := by decide +kernel
theorem dX7_takeCard_23 : decode cX7_takeCard 23 = .ok (.ifCond .ne 5, 3) := by decide +kernel
theorem dX7_takeCard_26 : decode cX7_takeCard 26 = .ok (.iconst 0, 1) := by decide +kernel
theorem dX7_takeCard_27 : decode cX7_takeCard 27 = .ok (.ireturn, 1) := by decide +kernel
theorem dX7_takeCard_28 : decode cX7_takeCard 28 = .ok (.aload_n 0, 1) := by decide +kernel
theorem dX7_takeCard_29 : decode cX7_takeCard 29 = .ok (.getfield 33, 3) := by decide +kernel
theorem dX7_takeCard_32 : decode cX7_takeCard 32 = .ok (.aload_n 0, 1) := by decide +kernel
theorem dX7_takeCard_33 : decode cX7_takeCard 33 = .ok (.getfield 116, 3) := by decide +kernel
theorem dX7_takeCard_36 : decode cX7_takeCard 36 = .ok (.invokevirtual 165, 3) := by decide +kernel
theorem dX7_takeCard_39 : decode cX7_takeCard 39 = .ok (.astore_n 2, 1) := by decide +kernel
theorem dX7_takeCard_40 : decode cX7_takeCard 40 = .ok (.aload_n 2, 1) := by decide +kernel
theorem dX7_takeCard_41 : decode cX7_takeCard 41 = .ok (.ifnonnull 11, 3) := by decide +kernel
theorem dX7_takeCard_44 : decode cX7_takeCard 44 = .ok (.aload_n 0, 1) := by decide +kernel
theorem dX7_takeCard_45 : decode cX7_takeCard 45 = .ok (.bipush (-3), 2) := by decide +kernel
theorem dX7_takeCard_47 : decode cX7_takeCard 47 = .ok (.iload_n 1, 1) := by decide +kernel
theorem dX7_takeCard_48 : decode cX7_takeCard 48 = .ok (.invokevirtual 112, 3) := by decide +kernel
theorem dX7_takeCard_51 : decode cX7_takeCard 51 = .ok (.ireturn, 1) := by decide +kernel
theorem dX7_takeCard_52 : decode cX7_takeCard 52 = .ok (.aload_n 2, 1) := by decide +kernel
theorem dX7_takeCard_53 : decode cX7_takeCard 53 = .ok (.getfield 169, 3) := by decide +kernel
theorem dX7_takeCard_56 : decode cX7_takeCard 56 = .ok (.invokevirtual 174, 3) := by decide +kernel
theorem dX7_takeCard_59 : decode cX7_takeCard 59 = .ok (.ifCond .eq 11, 3) := by decide +kernel
theorem dX7_takeCard_62 : decode cX7_takeCard 62 = .ok (.aload_n 0, 1) := by decide +kernel
theorem dX7_takeCard_63 : decode cX7_takeCard 63 = .ok (.bipush (-4), 2) := by decide +kernel
theorem dX7_takeCard_65 : decode cX7_takeCard 65 = .ok (.iload_n 1, 1) := by decide +kernel
theorem dX7_takeCard_66 : decode cX7_takeCard 66 = .ok (.invokevirtual 112, 3) := by decide +kernel
theorem dX7_takeCard_69 : decode cX7_takeCard 69 = .ok (.ireturn, 1) := by decide +kernel
theorem dX7_takeCard_70 : decode cX7_takeCard 70 = .ok (.aload_n 0, 1) := by decide +kernel
theorem dX7_takeCard_71 : decode cX7_takeCard 71 = .ok (.invokevirtual 177, 3) := by decide +kernel
theorem dX7_takeCard_74 : decode cX7_takeCard 74 = .ok (.ifCond .ne 5, 3) := by decide +kernel
theorem dX7_takeCard_77 : decode cX7_takeCard 77 = .ok (.iconst 0, 1) := by decide +kernel
theorem dX7_takeCard_78 : decode cX7_takeCard 78 = .ok (.ireturn, 1) := by decide +kernel
theorem dX7_takeCard_79 : decode cX7_takeCard 79 = .ok (.aload_n 0, 1) := by decide +kernel
theorem dX7_takeCard_80 : decode cX7_takeCard 80 = .ok (.getfield 116, 3) := by decide +kernel
theorem dX7_takeCard_83 : decode cX7_takeCard 83 = .ok (.istore_n 3, 1) := by decide +kernel
theorem dX7_takeCard_84 : decode cX7_takeCard 84 = .ok (.aload_n 0, 1) := by decide +kernel
theorem dX7_takeCard_85 : decode cX7_takeCard 85 = .ok (.iconst 1, 1) := by decide +kernel
theorem dX7_takeCard_86 : decode cX7_takeCard 86 = .ok (.sipush 999, 3) := by decide +kernel
theorem dX7_takeCard_89 : decode cX7_takeCard 89 = .ok (.invokevirtual 132, 3) := by decide +kernel
theorem dX7_takeCard_92 : decode cX7_takeCard 92 = .ok (.ifCond .ne 5, 3) := by decide +kernel
theorem dX7_takeCard_95 : decode cX7_takeCard 95 = .ok (.iconst 0, 1) := by decide +kernel
theorem dX7_takeCard_96 : decode cX7_takeCard 96 = .ok (.ireturn, 1) := by decide +kernel
theorem dX7_takeCard_97 : decode cX7_takeCard 97 = .ok (.aload_n 2, 1) := by decide +kernel
theorem dX7_takeCard_98 : decode cX7_takeCard 98 = .ok (.iload_n 3, 1) := by decide +kernel
theorem dX7_takeCard_99 : decode cX7_takeCard 99 = .ok (.aload_n 0, 1) := by decide +kernel
theorem dX7_takeCard_100 : decode cX7_takeCard 100 = .ok (.getfield 116, 3) := by decide +kernel
theorem dX7_takeCard_103 : decode cX7_takeCard 103 = .ok (.invokevirtual 180, 3) := by decide +kernel
theorem dX7_takeCard_106 : decode cX7_takeCard 106 = .ok (.iconst 1, 1) := by decide +kernel
theorem dX7_takeCard_107 : decode cX7_takeCard 107 = .ok (.ireturn, 1) := by decide +kernel
theorem dX7_takeLot_0 : decode cX7_takeLot 0 = .ok (.aload_n 0, 1) := by decide +kernel
theorem dX7_takeLot_1 : decode cX7_takeLot 1 = .ok (.getfield 33, 3) := by decide +kernel
theorem dX7_takeLot_4 : decode cX7_takeLot 4 = .ok (.getfield 183, 3) := by decide +kernel
theorem dX7_takeLot_7 : decode cX7_takeLot 7 = .ok (.invokevirtual 174, 3) := by decide +kernel
theorem dX7_takeLot_10 : decode cX7_takeLot 10 = .ok (.ifCond .eq 14, 3) := by decide +kernel
theorem dX7_takeLot_13 : decode cX7_takeLot 13 = .ok (.aload_n 0, 1) := by decide +kernel
theorem dX7_takeLot_14 : decode cX7_takeLot 14 = .ok (.bipush (-4), 2) := by decide +kernel
theorem dX7_takeLot_16 : decode cX7_takeLot 16 = .ok (.aload_n 0, 1) := by decide +kernel
theorem dX7_takeLot_17 : decode cX7_takeLot 17 = .ok (.getfield 85, 3) := by decide +kernel
theorem dX7_takeLot_20 : decode cX7_takeLot 20 = .ok (.invokevirtual 112, 3) := by decide +kernel
theorem dX7_takeLot_23 : decode cX7_takeLot 23 = .ok (.ireturn, 1) := by decide +kernel
theorem dX7_takeLot_24 : decode cX7_takeLot 24 = .ok (.aload_n 0, 1) := by decide +kernel
theorem dX7_takeLot_25 : decode cX7_takeLot 25 = .ok (.invokevirtual 72, 3) := by decide +kernel
theorem dX7_takeLot_28 : decode cX7_takeLot 28 = .ok (.aload_n 0, 1) := by decide +kernel
theorem dX7_takeLot_29 : decode cX7_takeLot 29 = .ok (.iconst 1, 1) := by decide +kernel
theorem dX7_takeLot_30 : decode cX7_takeLot 30 = .ok (.sipush 9999, 3) := by decide +kernel
theorem dX7_takeLot_33 : decode cX7_takeLot 33 = .ok (.invokevirtual 132, 3) := by decide +kernel
theorem dX7_takeLot_36 : decode cX7_takeLot 36 = .ok (.ifCond .ne 5, 3) := by decide +kernel
theorem dX7_takeLot_39 : decode cX7_takeLot 39 = .ok (.iconst 0, 1) := by decide +kernel
theorem dX7_takeLot_40 : decode cX7_takeLot 40 = .ok (.ireturn, 1) := by decide +kernel
theorem dX7_takeLot_41 : decode cX7_takeLot 41 = .ok (.aload_n 0, 1) := by decide +kernel
theorem dX7_takeLot_42 : decode cX7_takeLot 42 = .ok (.getfield 33, 3) := by decide +kernel
theorem dX7_takeLot_45 : decode cX7_takeLot 45 = .ok (.getfield 183, 3) := by decide +kernel
theorem dX7_takeLot_48 : decode cX7_takeLot 48 = .ok (.aload_n 0, 1) := by decide +kernel
theorem dX7_takeLot_49 : decode cX7_takeLot 49 = .ok (.getfield 116, 3) := by decide +kernel
theorem dX7_takeLot_52 : decode cX7_takeLot 52 = .ok (.invokevirtual 186, 3) := by decide +kernel
theorem dX7_takeLot_55 : decode cX7_takeLot 55 = .ok (.iconst 1, 1) := by decide +kernel
theorem dX7_takeLot_56 : decode cX7_takeLot 56 = .ok (.ireturn, 1) := by decide +kernel
theorem dX7_takePrice_0 : decode cX7_takePrice 0 = .ok (.aload_n 0, 1) := by decide +kernel
theorem dX7_takePrice_1 : decode cX7_takePrice 1 = .ok (.iconst 1, 1) := by decide +kernel
theorem dX7_takePrice_2 : decode cX7_takePrice 2 = .ok (.putfield 65, 3) := by decide +kernel
theorem dX7_takePrice_5 : decode cX7_takePrice 5 = .ok (.aload_n 0, 1) := by decide +kernel
theorem dX7_takePrice_6 : decode cX7_takePrice 6 = .ok (.invokevirtual 72, 3) := by decide +kernel
theorem dX7_takePrice_9 : decode cX7_takePrice 9 = .ok (.aload_n 0, 1) := by decide +kernel
theorem dX7_takePrice_10 : decode cX7_takePrice 10 = .ok (.iconst 0, 1) := by decide +kernel
theorem dX7_takePrice_11 : decode cX7_takePrice 11 = .ok (.invokevirtual 189, 3) := by decide +kernel
theorem dX7_takePrice_14 : decode cX7_takePrice 14 = .ok (.ifCond .ne 5, 3) := by decide +kernel
theorem dX7_takePrice_17 : decode cX7_takePrice 17 = .ok (.iconst 0, 1) := by decide +kernel
theorem dX7_takePrice_18 : decode cX7_takePrice 18 = .ok (.ireturn, 1) := by decide +kernel
theorem dX7_takePrice_19 : decode cX7_takePrice 19 = .ok (.aload_n 0, 1) := by decide +kernel
theorem dX7_takePrice_20 : decode cX7_takePrice 20 = .ok (.getfield 33, 3) := by decide +kernel
theorem dX7_takePrice_23 : decode cX7_takePrice 23 = .ok (.new 192, 3) := by decide +kernel
theorem dX7_takePrice_26 : decode cX7_takePrice 26 = .ok (.dup, 1) := by decide +kernel
theorem dX7_takePrice_27 : decode cX7_takePrice 27 = .ok (.aload_n 0, 1) := by decide +kernel
theorem dX7_takePrice_28 : decode cX7_takePrice 28 = .ok (.getfield 24, 3) := by decide +kernel
theorem dX7_takePrice_31 : decode cX7_takePrice 31 = .ok (.invokevirtual 194, 3) := by decide +kernel
theorem dX7_takePrice_34 : decode cX7_takePrice 34 = .ok (.invokespecial 198, 3) := by decide +kernel
theorem dX7_takePrice_37 : decode cX7_takePrice 37 = .ok (.invokevirtual 201, 3) := by decide +kernel
theorem dX7_takePrice_40 : decode cX7_takePrice 40 = .ok (.iconst 1, 1) := by decide +kernel
theorem dX7_takePrice_41 : decode cX7_takePrice 41 = .ok (.ireturn, 1) := by decide +kernel
theorem dX7_takeSum_0 : decode cX7_takeSum 0 = .ok (.aload_n 0, 1) := by decide +kernel
theorem dX7_takeSum_1 : decode cX7_takeSum 1 = .ok (.iload_n 1, 1) := by decide +kernel
theorem dX7_takeSum_2 : decode cX7_takeSum 2 = .ok (.invokevirtual 205, 3) := by decide +kernel
theorem dX7_takeSum_5 : decode cX7_takeSum 5 = .ok (.istore_n 2, 1) := by decide +kernel
theorem dX7_takeSum_6 : decode cX7_takeSum 6 = .ok (.iconst 0, 1) := by decide +kernel
theorem dX7_takeSum_7 : decode cX7_takeSum 7 = .ok (.istore_n 3, 1) := by decide +kernel
theorem dX7_takeSum_8 : decode cX7_takeSum 8 = .ok (.iload_n 3, 1) := by decide +kernel
theorem dX7_takeSum_9 : decode cX7_takeSum 9 = .ok (.sipush 700, 3) := by decide +kernel
theorem dX7_takeSum_12 : decode cX7_takeSum 12 = .ok (.if_icmp .ge 68, 3) := by decide +kernel
theorem dX7_takeSum_15 : decode cX7_takeSum 15 = .ok (.iload_n 2, 1) := by decide +kernel
theorem dX7_takeSum_16 : decode cX7_takeSum 16 = .ok (.ifCond .eq 64, 3) := by decide +kernel
theorem dX7_takeSum_19 : decode cX7_takeSum 19 = .ok (.aload_n 0, 1) := by decide +kernel
theorem dX7_takeSum_20 : decode cX7_takeSum 20 = .ok (.bipush 43, 2) := by decide +kernel
theorem dX7_takeSum_22 : decode cX7_takeSum 22 = .ok (.invokevirtual 108, 3) := by decide +kernel
theorem dX7_takeSum_25 : decode cX7_takeSum 25 = .ok (.ifCond .ne 12, 3) := by decide +kernel
theorem dX7_takeSum_28 : decode cX7_takeSum 28 = .ok (.aload_n 0, 1) := by decide +kernel
theorem dX7_takeSum_29 : decode cX7_takeSum 29 = .ok (.bipush 45, 2) := by decide +kernel
theorem dX7_takeSum_31 : decode cX7_takeSum 31 = .ok (.invokevirtual 108, 3) := by decide +kernel
theorem dX7_takeSum_34 : decode cX7_takeSum 34 = .ok (.ifCond .eq 46, 3) := by decide +kernel
theorem dX7_takeSum_37 : decode cX7_takeSum 37 = .ok (.aload_n 0, 1) := by decide +kernel
theorem dX7_takeSum_38 : decode cX7_takeSum 38 = .ok (.bipush 43, 2) := by decide +kernel
theorem dX7_takeSum_40 : decode cX7_takeSum 40 = .ok (.invokevirtual 108, 3) := by decide +kernel
theorem dX7_takeSum_43 : decode cX7_takeSum 43 = .ok (.ifCond .eq 8, 3) := by decide +kernel
theorem dX7_takeSum_46 : decode cX7_takeSum 46 = .ok (.bipush (-5), 2) := by decide +kernel
theorem dX7_takeSum_48 : decode cX7_takeSum 48 = .ok (.goto 5, 3) := by decide +kernel
theorem dX7_takeSum_51 : decode cX7_takeSum 51 = .ok (.bipush (-6), 2) := by decide +kernel
theorem dX7_takeSum_53 : decode cX7_takeSum 53 = .ok (.istore 4, 2) := by decide +kernel
theorem dX7_takeSum_55 : decode cX7_takeSum 55 = .ok (.aload_n 0, 1) := by decide +kernel
theorem dX7_takeSum_56 : decode cX7_takeSum 56 = .ok (.invokevirtual 72, 3) := by decide +kernel
theorem dX7_takeSum_59 : decode cX7_takeSum 59 = .ok (.aload_n 0, 1) := by decide +kernel
theorem dX7_takeSum_60 : decode cX7_takeSum 60 = .ok (.iload_n 1, 1) := by decide +kernel
theorem dX7_takeSum_61 : decode cX7_takeSum 61 = .ok (.invokevirtual 205, 3) := by decide +kernel
theorem dX7_takeSum_64 : decode cX7_takeSum 64 = .ok (.istore_n 2, 1) := by decide +kernel
theorem dX7_takeSum_65 : decode cX7_takeSum 65 = .ok (.aload_n 0, 1) := by decide +kernel
theorem dX7_takeSum_66 : decode cX7_takeSum 66 = .ok (.getfield 24, 3) := by decide +kernel
theorem dX7_takeSum_69 : decode cX7_takeSum 69 = .ok (.iload 4, 2) := by decide +kernel
theorem dX7_takeSum_71 : decode cX7_takeSum 71 = .ok (.invokevirtual 186, 3) := by decide +kernel
theorem dX7_takeSum_74 : decode cX7_takeSum 74 = .ok (.iinc 3 1, 3) := by decide +kernel
theorem dX7_takeSum_77 : decode cX7_takeSum 77 = .ok (.goto (-69), 3) := by decide +kernel
theorem dX7_takeSum_80 : decode cX7_takeSum 80 = .ok (.iload_n 2, 1) := by decide +kernel
theorem dX7_takeSum_81 : decode cX7_takeSum 81 = .ok (.ireturn, 1) := by decide +kernel
theorem dX7_takeTerm_0 : decode cX7_takeTerm 0 = .ok (.aload_n 0, 1) := by decide +kernel
theorem dX7_takeTerm_1 : decode cX7_takeTerm 1 = .ok (.iload_n 1, 1) := by decide +kernel
theorem dX7_takeTerm_2 : decode cX7_takeTerm 2 = .ok (.invokevirtual 208, 3) := by decide +kernel
theorem dX7_takeTerm_5 : decode cX7_takeTerm 5 = .ok (.istore_n 2, 1) := by decide +kernel
theorem dX7_takeTerm_6 : decode cX7_takeTerm 6 = .ok (.iconst 0, 1) := by decide +kernel
theorem dX7_takeTerm_7 : decode cX7_takeTerm 7 = .ok (.istore_n 3, 1) := by decide +kernel
theorem dX7_takeTerm_8 : decode cX7_takeTerm 8 = .ok (.iload_n 3, 1) := by decide +kernel
theorem dX7_takeTerm_9 : decode cX7_takeTerm 9 = .ok (.sipush 700, 3) := by decide +kernel
theorem dX7_takeTerm_12 : decode cX7_takeTerm 12 = .ok (.if_icmp .ge 68, 3) := by decide +kernel
theorem dX7_takeTerm_15 : decode cX7_takeTerm 15 = .ok (.iload_n 2, 1) := by decide +kernel
theorem dX7_takeTerm_16 : decode cX7_takeTerm 16 = .ok (.ifCond .eq 64, 3) := by decide +kernel
theorem dX7_takeTerm_19 : decode cX7_takeTerm 19 = .ok (.aload_n 0, 1) := by decide +kernel
theorem dX7_takeTerm_20 : decode cX7_takeTerm 20 = .ok (.bipush 42, 2) := by decide +kernel
theorem dX7_takeTerm_22 : decode cX7_takeTerm 22 = .ok (.invokevirtual 108, 3) := by decide +kernel
theorem dX7_takeTerm_25 : decode cX7_takeTerm 25 = .ok (.ifCond .ne 12, 3) := by decide +kernel
theorem dX7_takeTerm_28 : decode cX7_takeTerm 28 = .ok (.aload_n 0, 1) := by decide +kernel
theorem dX7_takeTerm_29 : decode cX7_takeTerm 29 = .ok (.bipush 47, 2) := by decide +kernel
theorem dX7_takeTerm_31 : decode cX7_takeTerm 31 = .ok (.invokevirtual 108, 3) := by decide +kernel
theorem dX7_takeTerm_34 : decode cX7_takeTerm 34 = .ok (.ifCond .eq 46, 3) := by decide +kernel
theorem dX7_takeTerm_37 : decode cX7_takeTerm 37 = .ok (.aload_n 0, 1) := by decide +kernel
theorem dX7_takeTerm_38 : decode cX7_takeTerm 38 = .ok (.bipush 42, 2) := by decide +kernel
theorem dX7_takeTerm_40 : decode cX7_takeTerm 40 = .ok (.invokevirtual 108, 3) := by decide +kernel
theorem dX7_takeTerm_43 : decode cX7_takeTerm 43 = .ok (.ifCond .eq 8, 3) := by decide +kernel
theorem dX7_takeTerm_46 : decode cX7_takeTerm 46 = .ok (.bipush (-7), 2) := by decide +kernel
theorem dX7_takeTerm_48 : decode cX7_takeTerm 48 = .ok (.goto 5, 3) := by decide +kernel
theorem dX7_takeTerm_51 : decode cX7_takeTerm 51 = .ok (.bipush (-8), 2) := by decide +kernel
theorem dX7_takeTerm_53 : decode cX7_takeTerm 53 = .ok (.istore 4, 2) := by decide +kernel
theorem dX7_takeTerm_55 : decode cX7_takeTerm 55 = .ok (.aload_n 0, 1) := by decide +kernel
theorem dX7_takeTerm_56 : decode cX7_takeTerm 56 = .ok (.invokevirtual 72, 3) := by decide +kernel
theorem dX7_takeTerm_59 : decode cX7_takeTerm 59 = .ok (.aload_n 0, 1) := by decide +kernel
theorem dX7_takeTerm_60 : decode cX7_takeTerm 60 = .ok (.iload_n 1, 1) := by decide +kernel
theorem dX7_takeTerm_61 : decode cX7_takeTerm 61 = .ok (.invokevirtual 208, 3) := by decide +kernel
theorem dX7_takeTerm_64 : decode cX7_takeTerm 64 = .ok (.istore_n 2, 1) := by decide +kernel
theorem dX7_takeTerm_65 : decode cX7_takeTerm 65 = .ok (.aload_n 0, 1) := by decide +kernel
theorem dX7_takeTerm_66 : decode cX7_takeTerm 66 = .ok (.getfield 24, 3) := by decide +kernel
theorem dX7_takeTerm_69 : decode cX7_takeTerm 69 = .ok (.iload 4, 2) := by decide +kernel
theorem dX7_takeTerm_71 : decode cX7_takeTerm 71 = .ok (.invokevirtual 186, 3) := by decide +kernel
theorem dX7_takeTerm_74 : decode cX7_takeTerm 74 = .ok (.iinc 3 1, 3) := by decide +kernel
theorem dX7_takeTerm_77 : decode cX7_takeTerm 77 = .ok (.goto (-69), 3) := by decide +kernel
theorem dX7_takeTerm_80 : decode cX7_takeTerm 80 = .ok (.iload_n 2, 1) := by decide +kernel
theorem dX7_takeTerm_81 : decode cX7_takeTerm 81 = .ok (.ireturn, 1) := by decide +kernel
theorem dX7_takeFactor_0 : decode cX7_takeFactor 0 = .ok (.aload_n 0, 1) := by decide +kernel
theorem dX7_takeFactor_1 : decode cX7_takeFactor 1 = .ok (.bipush 40, 2) := by decide +kernel
theorem dX7_takeFactor_3 : decode cX7_takeFactor 3 = .ok (.invokevirtual 108, 3) := by decide +kernel
theorem dX7_takeFactor_6 : decode cX7_takeFactor 6 = .ok (.ifCond .eq 48, 3) := by decide +kernel
theorem dX7_takeFactor_9 : decode cX7_takeFactor 9 = .ok (.iload_n 1, 1) := by decide +kernel
theorem dX7_takeFactor_10 : decode cX7_takeFactor 10 = .ok (.iconst 4, 1) := by decide +kernel
theorem dX7_takeFactor_11 : decode cX7_takeFactor 11 = .ok (.if_icmp .lt 14, 3) := by decide +kernel
theorem dX7_takeFactor_14 : decode cX7_takeFactor 14 = .ok (.aload_n 0, 1) := by decide +kernel
theorem dX7_takeFactor_15 : decode cX7_takeFactor 15 = .ok (.bipush (-5), 2) := by decide +kernel
theorem dX7_takeFactor_17 : decode cX7_takeFactor 17 = .ok (.aload_n 0, 1) := by decide +kernel
theorem dX7_takeFactor_18 : decode cX7_takeFactor 18 = .ok (.getfield 85, 3) := by decide +kernel
theorem dX7_takeFactor_21 : decode cX7_takeFactor 21 = .ok (.invokevirtual 112, 3) := by decide +kernel
theorem dX7_takeFactor_24 : decode cX7_takeFactor 24 = .ok (.ireturn, 1) := by decide +kernel
theorem dX7_takeFactor_25 : decode cX7_takeFactor 25 = .ok (.aload_n 0, 1) := by decide +kernel
theorem dX7_takeFactor_26 : decode cX7_takeFactor 26 = .ok (.invokevirtual 72, 3) := by decide +kernel
theorem dX7_takeFactor_29 : decode cX7_takeFactor 29 = .ok (.aload_n 0, 1) := by decide +kernel
theorem dX7_takeFactor_30 : decode cX7_takeFactor 30 = .ok (.iload_n 1, 1) := by decide +kernel
theorem dX7_takeFactor_31 : decode cX7_takeFactor 31 = .ok (.iconst 1, 1) := by decide +kernel
theorem dX7_takeFactor_32 : decode cX7_takeFactor 32 = .ok (.iadd, 1) := by decide +kernel
theorem dX7_takeFactor_33 : decode cX7_takeFactor 33 = .ok (.invokevirtual 189, 3) := by decide +kernel
theorem dX7_takeFactor_36 : decode cX7_takeFactor 36 = .ok (.ifCond .eq 16, 3) := by decide +kernel
theorem dX7_takeFactor_39 : decode cX7_takeFactor 39 = .ok (.aload_n 0, 1) := by decide +kernel
theorem dX7_takeFactor_40 : decode cX7_takeFactor 40 = .ok (.bipush 41, 2) := by decide +kernel
theorem dX7_takeFactor_42 : decode cX7_takeFactor 42 = .ok (.invokevirtual 135, 3) := by decide +kernel
theorem dX7_takeFactor_45 : decode cX7_takeFactor 45 = .ok (.ifCond .eq 7, 3) := by decide +kernel
theorem dX7_takeFactor_48 : decode cX7_takeFactor 48 = .ok (.iconst 1, 1) := by decide +kernel
theorem dX7_takeFactor_49 : decode cX7_takeFactor 49 = .ok (.goto 4, 3) := by decide +kernel
theorem dX7_takeFactor_52 : decode cX7_takeFactor 52 = .ok (.iconst 0, 1) := by decide +kernel
theorem dX7_takeFactor_53 : decode cX7_takeFactor 53 = .ok (.ireturn, 1) := by decide +kernel
theorem dX7_takeFactor_54 : decode cX7_takeFactor 54 = .ok (.aload_n 0, 1) := by decide +kernel
theorem dX7_takeFactor_55 : decode cX7_takeFactor 55 = .ok (.getfield 79, 3) := by decide +kernel
theorem dX7_takeFactor_58 : decode cX7_takeFactor 58 = .ok (.iconst 2, 1) := by decide +kernel
theorem dX7_takeFactor_59 : decode cX7_takeFactor 59 = .ok (.if_icmp .ne 8, 3) := by decide +kernel
theorem dX7_takeFactor_62 : decode cX7_takeFactor 62 = .ok (.aload_n 0, 1) := by decide +kernel
theorem dX7_takeFactor_63 : decode cX7_takeFactor 63 = .ok (.invokevirtual 211, 3) := by decide +kernel
theorem dX7_takeFactor_66 : decode cX7_takeFactor 66 = .ok (.ireturn, 1) := by decide +kernel
theorem dX7_takeFactor_67 : decode cX7_takeFactor 67 = .ok (.aload_n 0, 1) := by decide +kernel
theorem dX7_takeFactor_68 : decode cX7_takeFactor 68 = .ok (.iconst 0, 1) := by decide +kernel
theorem dX7_takeFactor_69 : decode cX7_takeFactor 69 = .ok (.sipush 9999, 3) := by decide +kernel
theorem dX7_takeFactor_72 : decode cX7_takeFactor 72 = .ok (.invokevirtual 132, 3) := by decide +kernel
theorem dX7_takeFactor_75 : decode cX7_takeFactor 75 = .ok (.ifCond .ne 5, 3) := by decide +kernel
theorem dX7_takeFactor_78 : decode cX7_takeFactor 78 = .ok (.iconst 0, 1) := by decide +kernel
theorem dX7_takeFactor_79 : decode cX7_takeFactor 79 = .ok (.ireturn, 1) := by decide +kernel
theorem dX7_takeFactor_80 : decode cX7_takeFactor 80 = .ok (.aload_n 0, 1) := by decide +kernel
theorem dX7_takeFactor_81 : decode cX7_takeFactor 81 = .ok (.getfield 24, 3) := by decide +kernel
theorem dX7_takeFactor_84 : decode cX7_takeFactor 84 = .ok (.aload_n 0, 1) := by decide +kernel
theorem dX7_takeFactor_85 : decode cX7_takeFactor 85 = .ok (.getfield 116, 3) := by decide +kernel
theorem dX7_takeFactor_88 : decode cX7_takeFactor 88 = .ok (.invokevirtual 186, 3) := by decide +kernel
theorem dX7_takeFactor_91 : decode cX7_takeFactor 91 = .ok (.iconst 1, 1) := by decide +kernel
theorem dX7_takeFactor_92 : decode cX7_takeFactor 92 = .ok (.ireturn, 1) := by decide +kernel
theorem dX7_takeVariable_0 : decode cX7_takeVariable 0 = .ok (.aload_n 0, 1) := by decide +kernel
theorem dX7_takeVariable_1 : decode cX7_takeVariable 1 = .ok (.ldc 214, 2) := by decide +kernel
theorem dX7_takeVariable_3 : decode cX7_takeVariable 3 = .ok (.invokevirtual 128, 3) := by decide +kernel
theorem dX7_takeVariable_6 : decode cX7_takeVariable 6 = .ok (.ifCond .eq 7, 3) := by decide +kernel
theorem dX7_takeVariable_9 : decode cX7_takeVariable 9 = .ok (.iconst (-1), 1) := by decide +kernel
theorem dX7_takeVariable_10 : decode cX7_takeVariable 10 = .ok (.goto 46, 3) := by decide +kernel
theorem dX7_takeVariable_13 : decode cX7_takeVariable 13 = .ok (.aload_n 0, 1) := by decide +kernel
theorem dX7_takeVariable_14 : decode cX7_takeVariable 14 = .ok (.ldc 216, 2) := by decide +kernel
theorem dX7_takeVariable_16 : decode cX7_takeVariable 16 = .ok (.invokevirtual 128, 3) := by decide +kernel
theorem dX7_takeVariable_19 : decode cX7_takeVariable 19 = .ok (.ifCond .eq 8, 3) := by decide +kernel
theorem dX7_takeVariable_22 : decode cX7_takeVariable 22 = .ok (.bipush (-2), 2) := by decide +kernel
theorem dX7_takeVariable_24 : decode cX7_takeVariable 24 = .ok (.goto 32, 3) := by decide +kernel
theorem dX7_takeVariable_27 : decode cX7_takeVariable 27 = .ok (.aload_n 0, 1) := by decide +kernel
theorem dX7_takeVariable_28 : decode cX7_takeVariable 28 = .ok (.ldc 218, 2) := by decide +kernel
theorem dX7_takeVariable_30 : decode cX7_takeVariable 30 = .ok (.invokevirtual 128, 3) := by decide +kernel
theorem dX7_takeVariable_33 : decode cX7_takeVariable 33 = .ok (.ifCond .eq 8, 3) := by decide +kernel
theorem dX7_takeVariable_36 : decode cX7_takeVariable 36 = .ok (.bipush (-3), 2) := by decide +kernel
theorem dX7_takeVariable_38 : decode cX7_takeVariable 38 = .ok (.goto 18, 3) := by decide +kernel
theorem dX7_takeVariable_41 : decode cX7_takeVariable 41 = .ok (.aload_n 0, 1) := by decide +kernel
theorem dX7_takeVariable_42 : decode cX7_takeVariable 42 = .ok (.ldc 220, 2) := by decide +kernel
theorem dX7_takeVariable_44 : decode cX7_takeVariable 44 = .ok (.invokevirtual 128, 3) := by decide +kernel
theorem dX7_takeVariable_47 : decode cX7_takeVariable 47 = .ok (.ifCond .eq 8, 3) := by decide +kernel
theorem dX7_takeVariable_50 : decode cX7_takeVariable 50 = .ok (.bipush (-4), 2) := by decide +kernel
theorem dX7_takeVariable_52 : decode cX7_takeVariable 52 = .ok (.goto 4, 3) := by decide +kernel
theorem dX7_takeVariable_55 : decode cX7_takeVariable 55 = .ok (.iconst 0, 1) := by decide +kernel
theorem dX7_takeVariable_56 : decode cX7_takeVariable 56 = .ok (.istore_n 1, 1) := by decide +kernel
theorem dX7_takeVariable_57 : decode cX7_takeVariable 57 = .ok (.iload_n 1, 1) := by decide +kernel
theorem dX7_takeVariable_58 : decode cX7_takeVariable 58 = .ok (.ifCond .ne 14, 3) := by decide +kernel
theorem dX7_takeVariable_61 : decode cX7_takeVariable 61 = .ok (.aload_n 0, 1) := by decide +kernel
theorem dX7_takeVariable_62 : decode cX7_takeVariable 62 = .ok (.bipush (-2), 2) := by decide +kernel
theorem dX7_takeVariable_64 : decode cX7_takeVariable 64 = .ok (.aload_n 0, 1) := by decide +kernel
theorem dX7_takeVariable_65 : decode cX7_takeVariable 65 = .ok (.getfield 85, 3) := by decide +kernel
theorem dX7_takeVariable_68 : decode cX7_takeVariable 68 = .ok (.invokevirtual 112, 3) := by decide +kernel
theorem dX7_takeVariable_71 : decode cX7_takeVariable 71 = .ok (.ireturn, 1) := by decide +kernel
theorem dX7_takeVariable_72 : decode cX7_takeVariable 72 = .ok (.aload_n 0, 1) := by decide +kernel
theorem dX7_takeVariable_73 : decode cX7_takeVariable 73 = .ok (.getfield 24, 3) := by decide +kernel
theorem dX7_takeVariable_76 : decode cX7_takeVariable 76 = .ok (.iload_n 1, 1) := by decide +kernel
theorem dX7_takeVariable_77 : decode cX7_takeVariable 77 = .ok (.invokevirtual 186, 3) := by decide +kernel
theorem dX7_takeVariable_80 : decode cX7_takeVariable 80 = .ok (.aload_n 0, 1) := by decide +kernel
theorem dX7_takeVariable_81 : decode cX7_takeVariable 81 = .ok (.invokevirtual 72, 3) := by decide +kernel
theorem dX7_takeVariable_84 : decode cX7_takeVariable 84 = .ok (.iconst 1, 1) := by decide +kernel
theorem dX7_takeVariable_85 : decode cX7_takeVariable 85 = .ok (.ireturn, 1) := by decide +kernel
theorem dX8_init_0 : decode cX8_init 0 = .ok (.aload_n 0, 1) := by decide +kernel
theorem dX8_init_1 : decode cX8_init 1 = .ok (.invokespecial 1, 3) := by decide +kernel
theorem dX8_init_4 : decode cX8_init 4 = .ok (.aload_n 0, 1) := by decide +kernel
theorem dX8_init_5 : decode cX8_init 5 = .ok (.new 7, 3) := by decide +kernel
theorem dX8_init_8 : decode cX8_init 8 = .ok (.dup, 1) := by decide +kernel
theorem dX8_init_9 : decode cX8_init 9 = .ok (.invokespecial 9, 3) := by decide +kernel
theorem dX8_init_12 : decode cX8_init 12 = .ok (.putfield 10, 3) := by decide +kernel
theorem dX8_init_15 : decode cX8_init 15 = .ok (.aload_n 0, 1) := by decide +kernel
theorem dX8_init_16 : decode cX8_init 16 = .ok (.new 16, 3) := by decide +kernel
theorem dX8_init_19 : decode cX8_init 19 = .ok (.dup, 1) := by decide +kernel
theorem dX8_init_20 : decode cX8_init 20 = .ok (.aload_n 0, 1) := by decide +kernel
theorem dX8_init_21 : decode cX8_init 21 = .ok (.getfield 10, 3) := by decide +kernel
theorem dX8_init_24 : decode cX8_init 24 = .ok (.invokespecial 18, 3) := by decide +kernel
theorem dX8_init_27 : decode cX8_init 27 = .ok (.putfield 21, 3) := by decide +kernel
theorem dX8_init_30 : decode cX8_init 30 = .ok (.aload_n 0, 1) := by decide +kernel
theorem dX8_init_31 : decode cX8_init 31 = .ok (.new 25, 3) := by decide +kernel
theorem dX8_init_34 : decode cX8_init 34 = .ok (.dup, 1) := by decide +kernel
theorem dX8_init_35 : decode cX8_init 35 = .ok (.aload_n 0, 1) := by decide +kernel
theorem dX8_init_36 : decode cX8_init 36 = .ok (.getfield 10, 3) := by decide +kernel
theorem dX8_init_39 : decode cX8_init 39 = .ok (.invokespecial 27, 3) := by decide +kernel
theorem dX8_init_42 : decode cX8_init 42 = .ok (.putfield 28, 3) := by decide +kernel
theorem dX8_init_45 : decode cX8_init 45 = .ok (.aload_n 0, 1) := by decide +kernel
theorem dX8_init_46 : decode cX8_init 46 = .ok (.new 32, 3) := by decide +kernel
theorem dX8_init_49 : decode cX8_init 49 = .ok (.dup, 1) := by decide +kernel
theorem dX8_init_50 : decode cX8_init 50 = .ok (.aload_n 0, 1) := by decide +kernel
theorem dX8_init_51 : decode cX8_init 51 = .ok (.getfield 10, 3) := by decide +kernel
theorem dX8_init_54 : decode cX8_init 54 = .ok (.invokespecial 34, 3) := by decide +kernel
theorem dX8_init_57 : decode cX8_init 57 = .ok (.putfield 35, 3) := by decide +kernel
theorem dX8_init_60 : decode cX8_init 60 = .ok (.aload_n 0, 1) := by decide +kernel
theorem dX8_init_61 : decode cX8_init 61 = .ok (.new 39, 3) := by decide +kernel
theorem dX8_init_64 : decode cX8_init 64 = .ok (.dup, 1) := by decide +kernel
theorem dX8_init_65 : decode cX8_init 65 = .ok (.aload_n 0, 1) := by decide +kernel
theorem dX8_init_66 : decode cX8_init 66 = .ok (.getfield 10, 3) := by decide +kernel
theorem dX8_init_69 : decode cX8_init 69 = .ok (.invokespecial 41, 3) := by decide +kernel
theorem dX8_init_72 : decode cX8_init 72 = .ok (.putfield 42, 3) := by decide +kernel
theorem dX8_init_75 : decode cX8_init 75 = .ok (.aload_n 0, 1) := by decide +kernel
theorem dX8_init_76 : decode cX8_init 76 = .ok (.iconst (-1), 1) := by decide +kernel
theorem dX8_init_77 : decode cX8_init 77 = .ok (.putfield 46, 3) := by decide +kernel
theorem dX8_init_80 : decode cX8_init 80 = .ok (.return_, 1) := by decide +kernel
theorem dX8_append_0 : decode cX8_append 0 = .ok (.aload_n 0, 1) := by decide +kernel
theorem dX8_append_1 : decode cX8_append 1 = .ok (.getfield 21, 3) := by decide +kernel
theorem dX8_append_4 : decode cX8_append 4 = .ok (.invokevirtual 50, 3) := by decide +kernel
theorem dX8_append_7 : decode cX8_append 7 = .ok (.ifCond .ne 5, 3) := by decide +kernel
theorem dX8_append_10 : decode cX8_append 10 = .ok (.iconst (-1), 1) := by decide +kernel
theorem dX8_append_11 : decode cX8_append 11 = .ok (.ireturn, 1) := by decide +kernel
theorem dX8_append_12 : decode cX8_append 12 = .ok (.aload_n 0, 1) := by decide +kernel
theorem dX8_append_13 : decode cX8_append 13 = .ok (.getfield 21, 3) := by decide +kernel
theorem dX8_append_16 : decode cX8_append 16 = .ok (.iload_n 1, 1) := by decide +kernel
theorem dX8_append_17 : decode cX8_append 17 = .ok (.invokevirtual 54, 3) := by decide +kernel
theorem dX8_append_20 : decode cX8_append 20 = .ok (.aload_n 0, 1) := by decide +kernel
theorem dX8_append_21 : decode cX8_append 21 = .ok (.getfield 21, 3) := by decide +kernel
theorem dX8_append_24 : decode cX8_append 24 = .ok (.iload_n 2, 1) := by decide +kernel
theorem dX8_append_25 : decode cX8_append 25 = .ok (.invokevirtual 54, 3) := by decide +kernel
theorem dX8_append_28 : decode cX8_append 28 = .ok (.aload_n 0, 1) := by decide +kernel
theorem dX8_append_29 : decode cX8_append 29 = .ok (.getfield 21, 3) := by decide +kernel
theorem dX8_append_32 : decode cX8_append 32 = .ok (.iload_n 3, 1) := by decide +kernel
theorem dX8_append_33 : decode cX8_append 33 = .ok (.invokevirtual 54, 3) := by decide +kernel
theorem dX8_append_36 : decode cX8_append 36 = .ok (.aload_n 0, 1) := by decide +kernel
theorem dX8_append_37 : decode cX8_append 37 = .ok (.getfield 21, 3) := by decide +kernel
theorem dX8_append_40 : decode cX8_append 40 = .ok (.iload 4, 2) := by decide +kernel
theorem dX8_append_42 : decode cX8_append 42 = .ok (.invokevirtual 54, 3) := by decide +kernel
theorem dX8_append_45 : decode cX8_append 45 = .ok (.aload_n 0, 1) := by decide +kernel
theorem dX8_append_46 : decode cX8_append 46 = .ok (.getfield 21, 3) := by decide +kernel
theorem dX8_append_49 : decode cX8_append 49 = .ok (.iload 5, 2) := by decide +kernel
theorem dX8_append_51 : decode cX8_append 51 = .ok (.invokevirtual 54, 3) := by decide +kernel
theorem dX8_append_54 : decode cX8_append 54 = .ok (.aload_n 0, 1) := by decide +kernel
theorem dX8_append_55 : decode cX8_append 55 = .ok (.getfield 21, 3) := by decide +kernel
theorem dX8_append_58 : decode cX8_append 58 = .ok (.invokevirtual 58, 3) := by decide +kernel
theorem dX8_append_61 : decode cX8_append 61 = .ok (.ireturn, 1) := by decide +kernel
theorem dX8_load_0 : decode cX8_load 0 = .ok (.iload_n 1, 1) := by decide +kernel
theorem dX8_load_1 : decode cX8_load 1 = .ok (.ifCond .lt 14, 3) := by decide +kernel
theorem dX8_load_4 : decode cX8_load 4 = .ok (.iload_n 1, 1) := by decide +kernel
theorem dX8_load_5 : decode cX8_load 5 = .ok (.aload_n 0, 1) := by decide +kernel
theorem dX8_load_6 : decode cX8_load 6 = .ok (.getfield 21, 3) := by decide +kernel
theorem dX8_load_9 : decode cX8_load 9 = .ok (.invokevirtual 58, 3) := by decide +kernel
theorem dX8_load_12 : decode cX8_load 12 = .ok (.if_icmp .le 11, 3) := by decide +kernel
theorem dX8_load_15 : decode cX8_load 15 = .ok (.new 62, 3) := by decide +kernel
theorem dX8_load_18 : decode cX8_load 18 = .ok (.dup, 1) := by decide +kernel
theorem dX8_load_19 : decode cX8_load 19 = .ok (.invokespecial 64, 3) := by decide +kernel
theorem dX8_load_22 : decode cX8_load 22 = .ok (.athrow, 1) := by decide +kernel
theorem dX8_load_23 : decode cX8_load 23 = .ok (.aload_n 0, 1) := by decide +kernel
theorem dX8_load_24 : decode cX8_load 24 = .ok (.getfield 21, 3) := by decide +kernel
theorem dX8_load_27 : decode cX8_load 27 = .ok (.iload_n 1, 1) := by decide +kernel
theorem dX8_load_28 : decode cX8_load 28 = .ok (.invokevirtual 65, 3) := by decide +kernel
theorem dX8_load_31 : decode cX8_load 31 = .ok (.istore_n 2, 1) := by decide +kernel
theorem dX8_load_32 : decode cX8_load 32 = .ok (.aload_n 0, 1) := by decide +kernel
theorem dX8_load_33 : decode cX8_load 33 = .ok (.aload_n 0, 1) := by decide +kernel
theorem dX8_load_34 : decode cX8_load 34 = .ok (.getfield 21, 3) := by decide +kernel
theorem dX8_load_37 : decode cX8_load 37 = .ok (.invokevirtual 69, 3) := by decide +kernel
theorem dX8_load_40 : decode cX8_load 40 = .ok (.putfield 46, 3) := by decide +kernel
theorem dX8_load_43 : decode cX8_load 43 = .ok (.iload_n 2, 1) := by decide +kernel
theorem dX8_load_44 : decode cX8_load 44 = .ok (.ifCond .eq 5, 3) := by decide +kernel
theorem dX8_load_47 : decode cX8_load 47 = .ok (.iload_n 2, 1) := by decide +kernel
theorem dX8_load_48 : decode cX8_load 48 = .ok (.ireturn, 1) := by decide +kernel
theorem dX8_load_49 : decode cX8_load 49 = .ok (.aload_n 0, 1) := by decide +kernel
theorem dX8_load_50 : decode cX8_load 50 = .ok (.getfield 35, 3) := by decide +kernel
theorem dX8_load_53 : decode cX8_load 53 = .ok (.aload_n 0, 1) := by decide +kernel
theorem dX8_load_54 : decode cX8_load 54 = .ok (.getfield 28, 3) := by decide +kernel
theorem dX8_load_57 : decode cX8_load 57 = .ok (.invokevirtual 72, 3) := by decide +kernel
theorem dX8_load_60 : decode cX8_load 60 = .ok (.aload_n 0, 1) := by decide +kernel
theorem dX8_load_61 : decode cX8_load 61 = .ok (.getfield 28, 3) := by decide +kernel
theorem dX8_load_64 : decode cX8_load 64 = .ok (.aload_n 0, 1) := by decide +kernel
theorem dX8_load_65 : decode cX8_load 65 = .ok (.getfield 21, 3) := by decide +kernel
theorem dX8_load_68 : decode cX8_load 68 = .ok (.invokevirtual 76, 3) := by decide +kernel
theorem dX8_load_71 : decode cX8_load 71 = .ok (.invokevirtual 80, 3) := by decide +kernel
theorem dX8_load_74 : decode cX8_load 74 = .ok (.aload_n 0, 1) := by decide +kernel
theorem dX8_load_75 : decode cX8_load 75 = .ok (.getfield 28, 3) := by decide +kernel
theorem dX8_load_78 : decode cX8_load 78 = .ok (.getfield 83, 3) := by decide +kernel
theorem dX8_load_81 : decode cX8_load 81 = .ok (.ireturn, 1) := by decide +kernel
theorem dX8_errorOffset_0 : decode cX8_errorOffset 0 = .ok (.aload_n 0, 1) := by decide +kernel
theorem dX8_errorOffset_1 : decode cX8_errorOffset 1 = .ok (.getfield 46, 3) := by decide +kernel
theorem dX8_errorOffset_4 : decode cX8_errorOffset 4 = .ok (.ireturn, 1) := by decide +kernel
theorem dX8_state_0 : decode cX8_state 0 = .ok (.iload_n 1, 1) := by decide +kernel
theorem dX8_state_1 : decode cX8_state 1 = .ok (.tableswitch 157 0 8 #[51, 59, 67, 78, 100, 122, 133, 141, 149], 51) := by decide +kernel
theorem dX8_state_52 : decode cX8_state 52 = .ok (.aload_n 0, 1) := by decide +kernel
theorem dX8_state_53 : decode cX8_state 53 = .ok (.getfield 28, 3) := by decide +kernel
theorem dX8_state_56 : decode cX8_state 56 = .ok (.getfield 86, 3) := by decide +kernel
theorem dX8_state_59 : decode cX8_state 59 = .ok (.ireturn, 1) := by decide +kernel
theorem dX8_state_60 : decode cX8_state 60 = .ok (.aload_n 0, 1) := by decide +kernel
theorem dX8_state_61 : decode cX8_state 61 = .ok (.getfield 28, 3) := by decide +kernel
theorem dX8_state_64 : decode cX8_state 64 = .ok (.getfield 83, 3) := by decide +kernel
theorem dX8_state_67 : decode cX8_state 67 = .ok (.ireturn, 1) := by decide +kernel
theorem dX8_state_68 : decode cX8_state 68 = .ok (.aload_n 0, 1) := by decide +kernel
theorem dX8_state_69 : decode cX8_state 69 = .ok (.getfield 28, 3) := by decide +kernel
theorem dX8_state_72 : decode cX8_state 72 = .ok (.getfield 89, 3) := by decide +kernel
theorem dX8_state_75 : decode cX8_state 75 = .ok (.invokevirtual 93, 3) := by decide +kernel
theorem dX8_state_78 : decode cX8_state 78 = .ok (.ireturn, 1) := by decide +kernel
theorem dX8_state_79 : decode cX8_state 79 = .ok (.aload_n 0, 1) := by decide +kernel
theorem dX8_state_80 : decode cX8_state 80 = .ok (.getfield 28, 3) := by decide +kernel
theorem dX8_state_83 : decode cX8_state 83 = .ok (.invokevirtual 98, 3) := by decide +kernel
theorem dX8_state_86 : decode cX8_state 86 = .ok (.ifCond .eq 7, 3) := by decide +kernel
theorem dX8_state_89 : decode cX8_state 89 = .ok (.iconst (-1), 1) := by decide +kernel
theorem dX8_state_90 : decode cX8_state 90 = .ok (.goto 10, 3) := by decide +kernel
theorem dX8_state_93 : decode cX8_state 93 = .ok (.aload_n 0, 1) := by decide +kernel
theorem dX8_state_94 : decode cX8_state 94 = .ok (.getfield 28, 3) := by decide +kernel
theorem dX8_state_97 : decode cX8_state 97 = .ok (.getfield 101, 3) := by decide +kernel
theorem dX8_state_100 : decode cX8_state 100 = .ok (.ireturn, 1) := by decide +kernel
theorem dX8_state_101 : decode cX8_state 101 = .ok (.aload_n 0, 1) := by decide +kernel
theorem dX8_state_102 : decode cX8_state 102 = .ok (.getfield 28, 3) := by decide +kernel
theorem dX8_state_105 : decode cX8_state 105 = .ok (.invokevirtual 98, 3) := by decide +kernel
theorem dX8_state_108 : decode cX8_state 108 = .ok (.ifCond .eq 7, 3) := by decide +kernel
theorem dX8_state_111 : decode cX8_state 111 = .ok (.iconst (-1), 1) := by decide +kernel
theorem dX8_state_112 : decode cX8_state 112 = .ok (.goto 10, 3) := by decide +kernel
theorem dX8_state_115 : decode cX8_state 115 = .ok (.aload_n 0, 1) := by decide +kernel
theorem dX8_state_116 : decode cX8_state 116 = .ok (.getfield 28, 3) := by decide +kernel
theorem dX8_state_119 : decode cX8_state 119 = .ok (.getfield 104, 3) := by decide +kernel
theorem dX8_state_122 : decode cX8_state 122 = .ok (.ireturn, 1) := by decide +kernel
theorem dX8_state_123 : decode cX8_state 123 = .ok (.aload_n 0, 1) := by decide +kernel
theorem dX8_state_124 : decode cX8_state 124 = .ok (.getfield 28, 3) := by decide +kernel
theorem dX8_state_127 : decode cX8_state 127 = .ok (.getfield 107, 3) := by decide +kernel
theorem dX8_state_130 : decode cX8_state 130 = .ok (.invokevirtual 93, 3) := by decide +kernel
theorem dX8_state_133 : decode cX8_state 133 = .ok (.ireturn, 1) := by decide +kernel
theorem dX8_state_134 : decode cX8_state 134 = .ok (.aload_n 0, 1) := by decide +kernel
theorem dX8_state_135 : decode cX8_state 135 = .ok (.getfield 28, 3) := by decide +kernel
theorem dX8_state_138 : decode cX8_state 138 = .ok (.getfield 110, 3) := by decide +kernel
theorem dX8_state_141 : decode cX8_state 141 = .ok (.ireturn, 1) := by decide +kernel
theorem dX8_state_142 : decode cX8_state 142 = .ok (.aload_n 0, 1) := by decide +kernel
theorem dX8_state_143 : decode cX8_state 143 = .ok (.getfield 28, 3) := by decide +kernel
theorem dX8_state_146 : decode cX8_state 146 = .ok (.getfield 113, 3) := by decide +kernel
theorem dX8_state_149 : decode cX8_state 149 = .ok (.ireturn, 1) := by decide +kernel
theorem dX8_state_150 : decode cX8_state 150 = .ok (.aload_n 0, 1) := by decide +kernel
theorem dX8_state_151 : decode cX8_state 151 = .ok (.getfield 28, 3) := by decide +kernel
theorem dX8_state_154 : decode cX8_state 154 = .ok (.getfield 116, 3) := by decide +kernel
theorem dX8_state_157 : decode cX8_state 157 = .ok (.ireturn, 1) := by decide +kernel
theorem dX8_state_158 : decode cX8_state 158 = .ok (.new 62, 3) := by decide +kernel
theorem dX8_state_161 : decode cX8_state 161 = .ok (.dup, 1) := by decide +kernel
theorem dX8_state_162 : decode cX8_state 162 = .ok (.invokespecial 64, 3) := by decide +kernel
theorem dX8_state_165 : decode cX8_state 165 = .ok (.athrow, 1) := by decide +kernel
theorem dX8_player_0 : decode cX8_player 0 = .ok (.aload_n 0, 1) := by decide +kernel
theorem dX8_player_1 : decode cX8_player 1 = .ok (.iload_n 1, 1) := by decide +kernel
theorem dX8_player_2 : decode cX8_player 2 = .ok (.invokevirtual 119, 3) := by decide +kernel
theorem dX8_player_5 : decode cX8_player 5 = .ok (.astore_n 3, 1) := by decide +kernel
theorem dX8_player_6 : decode cX8_player 6 = .ok (.iload_n 2, 1) := by decide +kernel
theorem dX8_player_7 : decode cX8_player 7 = .ok (.tableswitch 43 0 2 #[25, 30, 38], 25) := by decide +kernel
theorem dX8_player_32 : decode cX8_player 32 = .ok (.aload_n 3, 1) := by decide +kernel
theorem dX8_player_33 : decode cX8_player 33 = .ok (.getfield 123, 3) := by decide +kernel
theorem dX8_player_36 : decode cX8_player 36 = .ok (.ireturn, 1) := by decide +kernel
theorem dX8_player_37 : decode cX8_player 37 = .ok (.aload_n 3, 1) := by decide +kernel
theorem dX8_player_38 : decode cX8_player 38 = .ok (.getfield 128, 3) := by decide +kernel
theorem dX8_player_41 : decode cX8_player 41 = .ok (.invokevirtual 93, 3) := by decide +kernel
theorem dX8_player_44 : decode cX8_player 44 = .ok (.ireturn, 1) := by decide +kernel
theorem dX8_player_45 : decode cX8_player 45 = .ok (.aload_n 3, 1) := by decide +kernel
theorem dX8_player_46 : decode cX8_player 46 = .ok (.getfield 131, 3) := by decide +kernel
theorem dX8_player_49 : decode cX8_player 49 = .ok (.ireturn, 1) := by decide +kernel
theorem dX8_player_50 : decode cX8_player 50 = .ok (.new 62, 3) := by decide +kernel
theorem dX8_player_53 : decode cX8_player 53 = .ok (.dup, 1) := by decide +kernel
theorem dX8_player_54 : decode cX8_player 54 = .ok (.invokespecial 64, 3) := by decide +kernel
theorem dX8_player_57 : decode cX8_player 57 = .ok (.athrow, 1) := by decide +kernel
theorem dX8_card_0 : decode cX8_card 0 = .ok (.aload_n 0, 1) := by decide +kernel
theorem dX8_card_1 : decode cX8_card 1 = .ok (.iload_n 1, 1) := by decide +kernel
theorem dX8_card_2 : decode cX8_card 2 = .ok (.invokevirtual 119, 3) := by decide +kernel
theorem dX8_card_5 : decode cX8_card 5 = .ok (.astore 4, 2) := by decide +kernel
theorem dX8_card_7 : decode cX8_card 7 = .ok (.aload 4, 2) := by decide +kernel
theorem dX8_card_9 : decode cX8_card 9 = .ok (.getfield 128, 3) := by decide +kernel
theorem dX8_card_12 : decode cX8_card 12 = .ok (.iload_n 2, 1) := by decide +kernel
theorem dX8_card_13 : decode cX8_card 13 = .ok (.invokevirtual 134, 3) := by decide +kernel
theorem dX8_card_16 : decode cX8_card 16 = .ok (.ifCond .ne 11, 3) := by decide +kernel
theorem dX8_card_19 : decode cX8_card 19 = .ok (.new 138, 3) := by decide +kernel
theorem dX8_card_22 : decode cX8_card 22 = .ok (.dup, 1) := by decide +kernel
theorem dX8_card_23 : decode cX8_card 23 = .ok (.invokespecial 140, 3) := by decide +kernel
theorem dX8_card_26 : decode cX8_card 26 = .ok (.athrow, 1) := by decide +kernel
theorem dX8_card_27 : decode cX8_card 27 = .ok (.iload_n 3, 1) := by decide +kernel
theorem dX8_card_28 : decode cX8_card 28 = .ok (.tableswitch 63 0 2 #[28, 42, 52], 28) := by decide +kernel
theorem dX8_card_56 : decode cX8_card 56 = .ok (.aload_n 0, 1) := by decide +kernel
theorem dX8_card_57 : decode cX8_card 57 = .ok (.aload 4, 2) := by decide +kernel
theorem dX8_card_59 : decode cX8_card 59 = .ok (.getfield 128, 3) := by decide +kernel
theorem dX8_card_62 : decode cX8_card 62 = .ok (.iload_n 2, 1) := by decide +kernel
theorem dX8_card_63 : decode cX8_card 63 = .ok (.invokevirtual 141, 3) := by decide +kernel
theorem dX8_card_66 : decode cX8_card 66 = .ok (.invokevirtual 144, 3) := by decide +kernel
theorem dX8_card_69 : decode cX8_card 69 = .ok (.ireturn, 1) := by decide +kernel
theorem dX8_card_70 : decode cX8_card 70 = .ok (.aload 4, 2) := by decide +kernel
theorem dX8_card_72 : decode cX8_card 72 = .ok (.getfield 147, 3) := by decide +kernel
theorem dX8_card_75 : decode cX8_card 75 = .ok (.iload_n 2, 1) := by decide +kernel
theorem dX8_card_76 : decode cX8_card 76 = .ok (.invokevirtual 141, 3) := by decide +kernel
theorem dX8_card_79 : decode cX8_card 79 = .ok (.ireturn, 1) := by decide +kernel
theorem dX8_card_80 : decode cX8_card 80 = .ok (.aload_n 0, 1) := by decide +kernel
theorem dX8_card_81 : decode cX8_card 81 = .ok (.getfield 28, 3) := by decide +kernel
theorem dX8_card_84 : decode cX8_card 84 = .ok (.aload 4, 2) := by decide +kernel
theorem dX8_card_86 : decode cX8_card 86 = .ok (.iload_n 2, 1) := by decide +kernel
theorem dX8_card_87 : decode cX8_card 87 = .ok (.invokevirtual 150, 3) := by decide +kernel
theorem dX8_card_90 : decode cX8_card 90 = .ok (.ireturn, 1) := by decide +kernel
theorem dX8_card_91 : decode cX8_card 91 = .ok (.new 62, 3) := by decide +kernel
theorem dX8_card_94 : decode cX8_card 94 = .ok (.dup, 1) := by decide +kernel
theorem dX8_card_95 : decode cX8_card 95 = .ok (.invokespecial 64, 3) := by decide +kernel
theorem dX8_card_98 : decode cX8_card 98 = .ok (.athrow, 1) := by decide +kernel
theorem dX8_bid_0 : decode cX8_bid 0 = .ok (.aload_n 0, 1) := by decide +kernel
theorem dX8_bid_1 : decode cX8_bid 1 = .ok (.getfield 28, 3) := by decide +kernel
theorem dX8_bid_4 : decode cX8_bid 4 = .ok (.getfield 107, 3) := by decide +kernel
theorem dX8_bid_7 : decode cX8_bid 7 = .ok (.iload_n 1, 1) := by decide +kernel
theorem dX8_bid_8 : decode cX8_bid 8 = .ok (.invokevirtual 134, 3) := by decide +kernel
theorem dX8_bid_11 : decode cX8_bid 11 = .ok (.ifCond .ne 11, 3) := by decide +kernel
theorem dX8_bid_14 : decode cX8_bid 14 = .ok (.new 138, 3) := by decide +kernel
theorem dX8_bid_17 : decode cX8_bid 17 = .ok (.dup, 1) := by decide +kernel
theorem dX8_bid_18 : decode cX8_bid 18 = .ok (.invokespecial 140, 3) := by decide +kernel
theorem dX8_bid_21 : decode cX8_bid 21 = .ok (.athrow, 1) := by decide +kernel
theorem dX8_bid_22 : decode cX8_bid 22 = .ok (.iload_n 2, 1) := by decide +kernel
theorem dX8_bid_23 : decode cX8_bid 23 = .ok (.tableswitch 65 0 2 #[25, 37, 53], 25) := by decide +kernel
theorem dX8_bid_48 : decode cX8_bid 48 = .ok (.aload_n 0, 1) := by decide +kernel
theorem dX8_bid_49 : decode cX8_bid 49 = .ok (.getfield 28, 3) := by decide +kernel
theorem dX8_bid_52 : decode cX8_bid 52 = .ok (.getfield 154, 3) := by decide +kernel
theorem dX8_bid_55 : decode cX8_bid 55 = .ok (.iload_n 1, 1) := by decide +kernel
theorem dX8_bid_56 : decode cX8_bid 56 = .ok (.invokevirtual 141, 3) := by decide +kernel
theorem dX8_bid_59 : decode cX8_bid 59 = .ok (.ireturn, 1) := by decide +kernel
theorem dX8_bid_60 : decode cX8_bid 60 = .ok (.aload_n 0, 1) := by decide +kernel
theorem dX8_bid_61 : decode cX8_bid 61 = .ok (.aload_n 0, 1) := by decide +kernel
theorem dX8_bid_62 : decode cX8_bid 62 = .ok (.getfield 28, 3) := by decide +kernel
theorem dX8_bid_65 : decode cX8_bid 65 = .ok (.getfield 107, 3) := by decide +kernel
theorem dX8_bid_68 : decode cX8_bid 68 = .ok (.iload_n 1, 1) := by decide +kernel
theorem dX8_bid_69 : decode cX8_bid 69 = .ok (.invokevirtual 141, 3) := by decide +kernel
theorem dX8_bid_72 : decode cX8_bid 72 = .ok (.invokevirtual 144, 3) := by decide +kernel
theorem dX8_bid_75 : decode cX8_bid 75 = .ok (.ireturn, 1) := by decide +kernel
theorem dX8_bid_76 : decode cX8_bid 76 = .ok (.aload_n 0, 1) := by decide +kernel
theorem dX8_bid_77 : decode cX8_bid 77 = .ok (.getfield 28, 3) := by decide +kernel
theorem dX8_bid_80 : decode cX8_bid 80 = .ok (.getfield 157, 3) := by decide +kernel
theorem dX8_bid_83 : decode cX8_bid 83 = .ok (.iload_n 1, 1) := by decide +kernel
theorem dX8_bid_84 : decode cX8_bid 84 = .ok (.invokevirtual 141, 3) := by decide +kernel
theorem dX8_bid_87 : decode cX8_bid 87 = .ok (.ireturn, 1) := by decide +kernel
theorem dX8_bid_88 : decode cX8_bid 88 = .ok (.new 62, 3) := by decide +kernel
theorem dX8_bid_91 : decode cX8_bid 91 = .ok (.dup, 1) := by decide +kernel
theorem dX8_bid_92 : decode cX8_bid 92 = .ok (.invokespecial 64, 3) := by decide +kernel
theorem dX8_bid_95 : decode cX8_bid 95 = .ok (.athrow, 1) := by decide +kernel
theorem dX8_product_0 : decode cX8_product 0 = .ok (.aload_n 0, 1) := by decide +kernel
theorem dX8_product_1 : decode cX8_product 1 = .ok (.aload_n 0, 1) := by decide +kernel
theorem dX8_product_2 : decode cX8_product 2 = .ok (.getfield 28, 3) := by decide +kernel
theorem dX8_product_5 : decode cX8_product 5 = .ok (.iconst 0, 1) := by decide +kernel
theorem dX8_product_6 : decode cX8_product 6 = .ok (.aload_n 0, 1) := by decide +kernel
theorem dX8_product_7 : decode cX8_product 7 = .ok (.getfield 28, 3) := by decide +kernel
theorem dX8_product_10 : decode cX8_product 10 = .ok (.getfield 107, 3) := by decide +kernel
theorem dX8_product_13 : decode cX8_product 13 = .ok (.invokevirtual 93, 3) := by decide +kernel
theorem dX8_product_16 : decode cX8_product 16 = .ok (.invokevirtual 160, 3) := by decide +kernel
theorem dX8_product_19 : decode cX8_product 19 = .ok (.invokevirtual 144, 3) := by decide +kernel
theorem dX8_product_22 : decode cX8_product 22 = .ok (.ireturn, 1) := by decide +kernel
theorem dX8_productOf_0 : decode cX8_productOf 0 = .ok (.iload_n 1, 1) := by decide +kernel
theorem dX8_productOf_1 : decode cX8_productOf 1 = .ok (.ifCond .lt 22, 3) := by decide +kernel
theorem dX8_productOf_4 : decode cX8_productOf 4 = .ok (.iload_n 2, 1) := by decide +kernel
theorem dX8_productOf_5 : decode cX8_productOf 5 = .ok (.iload_n 1, 1) := by decide +kernel
theorem dX8_productOf_6 : decode cX8_productOf 6 = .ok (.if_icmp .lt 17, 3) := by decide +kernel
theorem dX8_productOf_9 : decode cX8_productOf 9 = .ok (.iload_n 2, 1) := by decide +kernel
theorem dX8_productOf_10 : decode cX8_productOf 10 = .ok (.aload_n 0, 1) := by decide +kernel
theorem dX8_productOf_11 : decode cX8_productOf 11 = .ok (.getfield 28, 3) := by decide +kernel
theorem dX8_productOf_14 : decode cX8_productOf 14 = .ok (.getfield 107, 3) := by decide +kernel
theorem dX8_productOf_17 : decode cX8_productOf 17 = .ok (.invokevirtual 93, 3) := by decide +kernel
theorem dX8_productOf_20 : decode cX8_productOf 20 = .ok (.if_icmp .le 11, 3) := by decide +kernel
theorem dX8_productOf_23 : decode cX8_productOf 23 = .ok (.new 62, 3) := by decide +kernel
theorem dX8_productOf_26 : decode cX8_productOf 26 = .ok (.dup, 1) := by decide +kernel
theorem dX8_productOf_27 : decode cX8_productOf 27 = .ok (.invokespecial 64, 3) := by decide +kernel
theorem dX8_productOf_30 : decode cX8_productOf 30 = .ok (.athrow, 1) := by decide +kernel
theorem dX8_productOf_31 : decode cX8_productOf 31 = .ok (.aload_n 0, 1) := by decide +kernel
theorem dX8_productOf_32 : decode cX8_productOf 32 = .ok (.aload_n 0, 1) := by decide +kernel
theorem dX8_productOf_33 : decode cX8_productOf 33 = .ok (.getfield 28, 3) := by decide +kernel
theorem dX8_productOf_36 : decode cX8_productOf 36 = .ok (.iload_n 1, 1) := by decide +kernel
theorem dX8_productOf_37 : decode cX8_productOf 37 = .ok (.iload_n 2, 1) := by decide +kernel
theorem dX8_productOf_38 : decode cX8_productOf 38 = .ok (.invokevirtual 160, 3) := by decide +kernel
theorem dX8_productOf_41 : decode cX8_productOf 41 = .ok (.invokevirtual 144, 3) := by decide +kernel
theorem dX8_productOf_44 : decode cX8_productOf 44 = .ok (.ireturn, 1) := by decide +kernel
theorem dX8_multiply_0 : decode cX8_multiply 0 = .ok (.aload_n 0, 1) := by decide +kernel
theorem dX8_multiply_1 : decode cX8_multiply 1 = .ok (.aload_n 0, 1) := by decide +kernel
theorem dX8_multiply_2 : decode cX8_multiply 2 = .ok (.getfield 10, 3) := by decide +kernel
theorem dX8_multiply_5 : decode cX8_multiply 5 = .ok (.aload_n 0, 1) := by decide +kernel
theorem dX8_multiply_6 : decode cX8_multiply 6 = .ok (.iload_n 1, 1) := by decide +kernel
theorem dX8_multiply_7 : decode cX8_multiply 7 = .ok (.invokevirtual 164, 3) := by decide +kernel
theorem dX8_multiply_10 : decode cX8_multiply 10 = .ok (.aload_n 0, 1) := by decide +kernel
theorem dX8_multiply_11 : decode cX8_multiply 11 = .ok (.iload_n 2, 1) := by decide +kernel
theorem dX8_multiply_12 : decode cX8_multiply 12 = .ok (.invokevirtual 164, 3) := by decide +kernel
theorem dX8_multiply_15 : decode cX8_multiply 15 = .ok (.invokevirtual 167, 3) := by decide +kernel
theorem dX8_multiply_18 : decode cX8_multiply 18 = .ok (.invokevirtual 144, 3) := by decide +kernel
theorem dX8_multiply_21 : decode cX8_multiply 21 = .ok (.ireturn, 1) := by decide +kernel
theorem dX8_inverse_0 : decode cX8_inverse 0 = .ok (.aload_n 0, 1) := by decide +kernel
theorem dX8_inverse_1 : decode cX8_inverse 1 = .ok (.aload_n 0, 1) := by decide +kernel
theorem dX8_inverse_2 : decode cX8_inverse 2 = .ok (.getfield 10, 3) := by decide +kernel
theorem dX8_inverse_5 : decode cX8_inverse 5 = .ok (.aload_n 0, 1) := by decide +kernel
theorem dX8_inverse_6 : decode cX8_inverse 6 = .ok (.iload_n 1, 1) := by decide +kernel
theorem dX8_inverse_7 : decode cX8_inverse 7 = .ok (.invokevirtual 164, 3) := by decide +kernel
theorem dX8_inverse_10 : decode cX8_inverse 10 = .ok (.invokevirtual 170, 3) := by decide +kernel
theorem dX8_inverse_13 : decode cX8_inverse 13 = .ok (.invokevirtual 144, 3) := by decide +kernel
theorem dX8_inverse_16 : decode cX8_inverse 16 = .ok (.ireturn, 1) := by decide +kernel
theorem dX8_order_0 : decode cX8_order 0 = .ok (.aload_n 0, 1) := by decide +kernel
theorem dX8_order_1 : decode cX8_order 1 = .ok (.getfield 10, 3) := by decide +kernel
theorem dX8_order_4 : decode cX8_order 4 = .ok (.aload_n 0, 1) := by decide +kernel
theorem dX8_order_5 : decode cX8_order 5 = .ok (.iload_n 1, 1) := by decide +kernel
theorem dX8_order_6 : decode cX8_order 6 = .ok (.invokevirtual 164, 3) := by decide +kernel
theorem dX8_order_9 : decode cX8_order 9 = .ok (.invokevirtual 173, 3) := by decide +kernel
theorem dX8_order_12 : decode cX8_order 12 = .ok (.ireturn, 1) := by decide +kernel
theorem dX8_reach_0 : decode cX8_reach 0 = .ok (.aload_n 0, 1) := by decide +kernel
theorem dX8_reach_1 : decode cX8_reach 1 = .ok (.getfield 42, 3) := by decide +kernel
theorem dX8_reach_4 : decode cX8_reach 4 = .ok (.aload_n 0, 1) := by decide +kernel
theorem dX8_reach_5 : decode cX8_reach 5 = .ok (.iload_n 1, 1) := by decide +kernel
theorem dX8_reach_6 : decode cX8_reach 6 = .ok (.invokevirtual 119, 3) := by decide +kernel
theorem dX8_reach_9 : decode cX8_reach 9 = .ok (.aload_n 0, 1) := by decide +kernel
theorem dX8_reach_10 : decode cX8_reach 10 = .ok (.getfield 28, 3) := by decide +kernel
theorem dX8_reach_13 : decode cX8_reach 13 = .ok (.getfield 86, 3) := by decide +kernel
theorem dX8_reach_16 : decode cX8_reach 16 = .ok (.invokevirtual 176, 3) := by decide +kernel
theorem dX8_reach_19 : decode cX8_reach 19 = .ok (.aload_n 0, 1) := by decide +kernel
theorem dX8_reach_20 : decode cX8_reach 20 = .ok (.getfield 42, 3) := by decide +kernel
theorem dX8_reach_23 : decode cX8_reach 23 = .ok (.invokevirtual 180, 3) := by decide +kernel
theorem dX8_reach_26 : decode cX8_reach 26 = .ok (.ireturn, 1) := by decide +kernel
theorem dX8_reaches_0 : decode cX8_reaches 0 = .ok (.aload_n 0, 1) := by decide +kernel
theorem dX8_reaches_1 : decode cX8_reaches 1 = .ok (.iload_n 1, 1) := by decide +kernel
theorem dX8_reaches_2 : decode cX8_reaches 2 = .ok (.invokevirtual 119, 3) := by decide +kernel
theorem dX8_reaches_5 : decode cX8_reaches 5 = .ok (.astore_n 3, 1) := by decide +kernel
theorem dX8_reaches_6 : decode cX8_reaches 6 = .ok (.aload_n 0, 1) := by decide +kernel
theorem dX8_reaches_7 : decode cX8_reaches 7 = .ok (.iload_n 2, 1) := by decide +kernel
theorem dX8_reaches_8 : decode cX8_reaches 8 = .ok (.invokevirtual 164, 3) := by decide +kernel
theorem dX8_reaches_11 : decode cX8_reaches 11 = .ok (.istore 4, 2) := by decide +kernel
theorem dX8_reaches_13 : decode cX8_reaches 13 = .ok (.aload_n 0, 1) := by decide +kernel
theorem dX8_reaches_14 : decode cX8_reaches 14 = .ok (.getfield 42, 3) := by decide +kernel
theorem dX8_reaches_17 : decode cX8_reaches 17 = .ok (.aload_n 3, 1) := by decide +kernel
theorem dX8_reaches_18 : decode cX8_reaches 18 = .ok (.aload_n 0, 1) := by decide +kernel
theorem dX8_reaches_19 : decode cX8_reaches 19 = .ok (.getfield 28, 3) := by decide +kernel
theorem dX8_reaches_22 : decode cX8_reaches 22 = .ok (.getfield 86, 3) := by decide +kernel
theorem dX8_reaches_25 : decode cX8_reaches 25 = .ok (.invokevirtual 176, 3) := by decide +kernel
theorem dX8_reaches_28 : decode cX8_reaches 28 = .ok (.aload_n 0, 1) := by decide +kernel
theorem dX8_reaches_29 : decode cX8_reaches 29 = .ok (.getfield 42, 3) := by decide +kernel
theorem dX8_reaches_32 : decode cX8_reaches 32 = .ok (.iload 4, 2) := by decide +kernel
theorem dX8_reaches_34 : decode cX8_reaches 34 = .ok (.invokevirtual 183, 3) := by decide +kernel
theorem dX8_reaches_37 : decode cX8_reaches 37 = .ok (.ireturn, 1) := by decide +kernel
theorem dX8_generated_0 : decode cX8_generated 0 = .ok (.aload_n 0, 1) := by decide +kernel
theorem dX8_generated_1 : decode cX8_generated 1 = .ok (.getfield 42, 3) := by decide +kernel
theorem dX8_generated_4 : decode cX8_generated 4 = .ok (.aload_n 0, 1) := by decide +kernel
theorem dX8_generated_5 : decode cX8_generated 5 = .ok (.iload_n 1, 1) := by decide +kernel
theorem dX8_generated_6 : decode cX8_generated 6 = .ok (.invokevirtual 119, 3) := by decide +kernel
theorem dX8_generated_9 : decode cX8_generated 9 = .ok (.aload_n 0, 1) := by decide +kernel
theorem dX8_generated_10 : decode cX8_generated 10 = .ok (.getfield 28, 3) := by decide +kernel
theorem dX8_generated_13 : decode cX8_generated 13 = .ok (.getfield 86, 3) := by decide +kernel
theorem dX8_generated_16 : decode cX8_generated 16 = .ok (.invokevirtual 186, 3) := by decide +kernel
theorem dX8_generated_19 : decode cX8_generated 19 = .ok (.ireturn, 1) := by decide +kernel
theorem dX8_fewest_0 : decode cX8_fewest 0 = .ok (.aload_n 0, 1) := by decide +kernel
theorem dX8_fewest_1 : decode cX8_fewest 1 = .ok (.getfield 42, 3) := by decide +kernel
theorem dX8_fewest_4 : decode cX8_fewest 4 = .ok (.aload_n 0, 1) := by decide +kernel
theorem dX8_fewest_5 : decode cX8_fewest 5 = .ok (.iload_n 1, 1) := by decide +kernel
theorem dX8_fewest_6 : decode cX8_fewest 6 = .ok (.invokevirtual 119, 3) := by decide +kernel
theorem dX8_fewest_9 : decode cX8_fewest 9 = .ok (.aload_n 0, 1) := by decide +kernel
theorem dX8_fewest_10 : decode cX8_fewest 10 = .ok (.getfield 28, 3) := by decide +kernel
theorem dX8_fewest_13 : decode cX8_fewest 13 = .ok (.getfield 86, 3) := by decide +kernel
theorem dX8_fewest_16 : decode cX8_fewest 16 = .ok (.invokevirtual 176, 3) := by decide +kernel
theorem dX8_fewest_19 : decode cX8_fewest 19 = .ok (.aload_n 0, 1) := by decide +kernel
theorem dX8_fewest_20 : decode cX8_fewest 20 = .ok (.getfield 42, 3) := by decide +kernel
theorem dX8_fewest_23 : decode cX8_fewest 23 = .ok (.aload_n 0, 1) := by decide +kernel
theorem dX8_fewest_24 : decode cX8_fewest 24 = .ok (.getfield 28, 3) := by decide +kernel
theorem dX8_fewest_27 : decode cX8_fewest 27 = .ok (.invokevirtual 189, 3) := by decide +kernel
theorem dX8_fewest_30 : decode cX8_fewest 30 = .ok (.invokevirtual 192, 3) := by decide +kernel
theorem dX8_fewest_33 : decode cX8_fewest 33 = .ok (.ireturn, 1) := by decide +kernel
theorem dX8_cheapest_0 : decode cX8_cheapest 0 = .ok (.aload_n 0, 1) := by decide +kernel
theorem dX8_cheapest_1 : decode cX8_cheapest 1 = .ok (.iload_n 1, 1) := by decide +kernel
theorem dX8_cheapest_2 : decode cX8_cheapest 2 = .ok (.invokevirtual 119, 3) := by decide +kernel
theorem dX8_cheapest_5 : decode cX8_cheapest 5 = .ok (.astore_n 2, 1) := by decide +kernel
theorem dX8_cheapest_6 : decode cX8_cheapest 6 = .ok (.aload_n 0, 1) := by decide +kernel
theorem dX8_cheapest_7 : decode cX8_cheapest 7 = .ok (.getfield 42, 3) := by decide +kernel
theorem dX8_cheapest_10 : decode cX8_cheapest 10 = .ok (.aload_n 2, 1) := by decide +kernel
theorem dX8_cheapest_11 : decode cX8_cheapest 11 = .ok (.aload_n 0, 1) := by decide +kernel
theorem dX8_cheapest_12 : decode cX8_cheapest 12 = .ok (.getfield 28, 3) := by decide +kernel
theorem dX8_cheapest_15 : decode cX8_cheapest 15 = .ok (.getfield 86, 3) := by decide +kernel
theorem dX8_cheapest_18 : decode cX8_cheapest 18 = .ok (.invokevirtual 176, 3) := by decide +kernel
theorem dX8_cheapest_21 : decode cX8_cheapest 21 = .ok (.aload_n 0, 1) := by decide +kernel
theorem dX8_cheapest_22 : decode cX8_cheapest 22 = .ok (.getfield 42, 3) := by decide +kernel
theorem dX8_cheapest_25 : decode cX8_cheapest 25 = .ok (.aload_n 0, 1) := by decide +kernel
theorem dX8_cheapest_26 : decode cX8_cheapest 26 = .ok (.getfield 28, 3) := by decide +kernel
theorem dX8_cheapest_29 : decode cX8_cheapest 29 = .ok (.invokevirtual 189, 3) := by decide +kernel
theorem dX8_cheapest_32 : decode cX8_cheapest 32 = .ok (.aload_n 2, 1) := by decide +kernel
theorem dX8_cheapest_33 : decode cX8_cheapest 33 = .ok (.getfield 147, 3) := by decide +kernel
theorem dX8_cheapest_36 : decode cX8_cheapest 36 = .ok (.invokevirtual 195, 3) := by decide +kernel
theorem dX8_cheapest_39 : decode cX8_cheapest 39 = .ok (.ireturn, 1) := by decide +kernel
theorem dX8_opening_0 : decode cX8_opening 0 = .ok (.aload_n 0, 1) := by decide +kernel
theorem dX8_opening_1 : decode cX8_opening 1 = .ok (.iload_n 1, 1) := by decide +kernel
theorem dX8_opening_2 : decode cX8_opening 2 = .ok (.invokevirtual 119, 3) := by decide +kernel
theorem dX8_opening_5 : decode cX8_opening 5 = .ok (.astore_n 2, 1) := by decide +kernel
theorem dX8_opening_6 : decode cX8_opening 6 = .ok (.aload_n 0, 1) := by decide +kernel
theorem dX8_opening_7 : decode cX8_opening 7 = .ok (.getfield 42, 3) := by decide +kernel
theorem dX8_opening_10 : decode cX8_opening 10 = .ok (.aload_n 2, 1) := by decide +kernel
theorem dX8_opening_11 : decode cX8_opening 11 = .ok (.aload_n 0, 1) := by decide +kernel
theorem dX8_opening_12 : decode cX8_opening 12 = .ok (.getfield 28, 3) := by decide +kernel
theorem dX8_opening_15 : decode cX8_opening 15 = .ok (.getfield 86, 3) := by decide +kernel
theorem dX8_opening_18 : decode cX8_opening 18 = .ok (.invokevirtual 176, 3) := by decide +kernel
theorem dX8_opening_21 : decode cX8_opening 21 = .ok (.aload_n 0, 1) := by decide +kernel
theorem dX8_opening_22 : decode cX8_opening 22 = .ok (.getfield 42, 3) := by decide +kernel
theorem dX8_opening_25 : decode cX8_opening 25 = .ok (.aload_n 0, 1) := by decide +kernel
theorem dX8_opening_26 : decode cX8_opening 26 = .ok (.getfield 28, 3) := by decide +kernel
theorem dX8_opening_29 : decode cX8_opening 29 = .ok (.invokevirtual 189, 3) := by decide +kernel
theorem dX8_opening_32 : decode cX8_opening 32 = .ok (.aload_n 2, 1) := by decide +kernel
theorem dX8_opening_33 : decode cX8_opening 33 = .ok (.getfield 128, 3) := by decide +kernel
theorem dX8_opening_36 : decode cX8_opening 36 = .ok (.invokevirtual 199, 3) := by decide +kernel
theorem dX8_opening_39 : decode cX8_opening 39 = .ok (.ireturn, 1) := by decide +kernel
theorem dX8_play_0 : decode cX8_play 0 = .ok (.aload_n 0, 1) := by decide +kernel
theorem dX8_play_1 : decode cX8_play 1 = .ok (.invokevirtual 202, 3) := by decide +kernel
theorem dX8_play_4 : decode cX8_play 4 = .ok (.getfield 128, 3) := by decide +kernel
theorem dX8_play_7 : decode cX8_play 7 = .ok (.iload_n 1, 1) := by decide +kernel
theorem dX8_play_8 : decode cX8_play 8 = .ok (.invokevirtual 134, 3) := by decide +kernel
theorem dX8_play_11 : decode cX8_play 11 = .ok (.ifCond .ne 11, 3) := by decide +kernel
theorem dX8_play_14 : decode cX8_play 14 = .ok (.new 138, 3) := by decide +kernel
theorem dX8_play_17 : decode cX8_play 17 = .ok (.dup, 1) := by decide +kernel
theorem dX8_play_18 : decode cX8_play 18 = .ok (.invokespecial 140, 3) := by decide +kernel
theorem dX8_play_21 : decode cX8_play 21 = .ok (.athrow, 1) := by decide +kernel
theorem dX8_play_22 : decode cX8_play 22 = .ok (.aload_n 0, 1) := by decide +kernel
theorem dX8_play_23 : decode cX8_play 23 = .ok (.getfield 35, 3) := by decide +kernel
theorem dX8_play_26 : decode cX8_play 26 = .ok (.aload_n 0, 1) := by decide +kernel
theorem dX8_play_27 : decode cX8_play 27 = .ok (.getfield 28, 3) := by decide +kernel
theorem dX8_play_30 : decode cX8_play 30 = .ok (.invokevirtual 72, 3) := by decide +kernel
theorem dX8_play_33 : decode cX8_play 33 = .ok (.aload_n 0, 1) := by decide +kernel
theorem dX8_play_34 : decode cX8_play 34 = .ok (.getfield 28, 3) := by decide +kernel
theorem dX8_play_37 : decode cX8_play 37 = .ok (.iload_n 1, 1) := by decide +kernel
theorem dX8_play_38 : decode cX8_play 38 = .ok (.invokevirtual 206, 3) := by decide +kernel
theorem dX8_play_41 : decode cX8_play 41 = .ok (.ireturn, 1) := by decide +kernel
theorem dX8_cancel_0 : decode cX8_cancel 0 = .ok (.aload_n 0, 1) := by decide +kernel
theorem dX8_cancel_1 : decode cX8_cancel 1 = .ok (.invokevirtual 202, 3) := by decide +kernel
theorem dX8_cancel_4 : decode cX8_cancel 4 = .ok (.getfield 128, 3) := by decide +kernel
theorem dX8_cancel_7 : decode cX8_cancel 7 = .ok (.iload_n 1, 1) := by decide +kernel
theorem dX8_cancel_8 : decode cX8_cancel 8 = .ok (.invokevirtual 134, 3) := by decide +kernel
theorem dX8_cancel_11 : decode cX8_cancel 11 = .ok (.ifCond .eq 17, 3) := by decide +kernel
theorem dX8_cancel_14 : decode cX8_cancel 14 = .ok (.aload_n 0, 1) := by decide +kernel
theorem dX8_cancel_15 : decode cX8_cancel 15 = .ok (.getfield 28, 3) := by decide +kernel
theorem dX8_cancel_18 : decode cX8_cancel 18 = .ok (.getfield 107, 3) := by decide +kernel
theorem dX8_cancel_21 : decode cX8_cancel 21 = .ok (.iload_n 2, 1) := by decide +kernel
theorem dX8_cancel_22 : decode cX8_cancel 22 = .ok (.invokevirtual 134, 3) := by decide +kernel
theorem dX8_cancel_25 : decode cX8_cancel 25 = .ok (.ifCond .ne 11, 3) := by decide +kernel
theorem dX8_cancel_28 : decode cX8_cancel 28 = .ok (.new 138, 3) := by decide +kernel
theorem dX8_cancel_31 : decode cX8_cancel 31 = .ok (.dup, 1) := by decide +kernel
theorem dX8_cancel_32 : decode cX8_cancel 32 = .ok (.invokespecial 140, 3) := by decide +kernel
theorem dX8_cancel_35 : decode cX8_cancel 35 = .ok (.athrow, 1) := by decide +kernel
theorem dX8_cancel_36 : decode cX8_cancel 36 = .ok (.aload_n 0, 1) := by decide +kernel
theorem dX8_cancel_37 : decode cX8_cancel 37 = .ok (.getfield 35, 3) := by decide +kernel
theorem dX8_cancel_40 : decode cX8_cancel 40 = .ok (.aload_n 0, 1) := by decide +kernel
theorem dX8_cancel_41 : decode cX8_cancel 41 = .ok (.getfield 28, 3) := by decide +kernel
theorem dX8_cancel_44 : decode cX8_cancel 44 = .ok (.invokevirtual 72, 3) := by decide +kernel
theorem dX8_cancel_47 : decode cX8_cancel 47 = .ok (.aload_n 0, 1) := by decide +kernel
theorem dX8_cancel_48 : decode cX8_cancel 48 = .ok (.getfield 28, 3) := by decide +kernel
theorem dX8_cancel_51 : decode cX8_cancel 51 = .ok (.iload_n 1, 1) := by decide +kernel
theorem dX8_cancel_52 : decode cX8_cancel 52 = .ok (.iload_n 2, 1) := by decide +kernel
theorem dX8_cancel_53 : decode cX8_cancel 53 = .ok (.invokevirtual 209, 3) := by decide +kernel
theorem dX8_cancel_56 : decode cX8_cancel 56 = .ok (.ireturn, 1) := by decide +kernel
theorem dX8_pass_0 : decode cX8_pass 0 = .ok (.aload_n 0, 1) := by decide +kernel
theorem dX8_pass_1 : decode cX8_pass 1 = .ok (.getfield 28, 3) := by decide +kernel
theorem dX8_pass_4 : decode cX8_pass 4 = .ok (.invokevirtual 98, 3) := by decide +kernel
theorem dX8_pass_7 : decode cX8_pass 7 = .ok (.ifCond .eq 11, 3) := by decide +kernel
theorem dX8_pass_10 : decode cX8_pass 10 = .ok (.new 212, 3) := by decide +kernel
theorem dX8_pass_13 : decode cX8_pass 13 = .ok (.dup, 1) := by decide +kernel
theorem dX8_pass_14 : decode cX8_pass 14 = .ok (.invokespecial 214, 3) := by decide +kernel
theorem dX8_pass_17 : decode cX8_pass 17 = .ok (.athrow, 1) := by decide +kernel
theorem dX8_pass_18 : decode cX8_pass 18 = .ok (.aload_n 0, 1) := by decide +kernel
theorem dX8_pass_19 : decode cX8_pass 19 = .ok (.getfield 35, 3) := by decide +kernel
theorem dX8_pass_22 : decode cX8_pass 22 = .ok (.aload_n 0, 1) := by decide +kernel
theorem dX8_pass_23 : decode cX8_pass 23 = .ok (.getfield 28, 3) := by decide +kernel
theorem dX8_pass_26 : decode cX8_pass 26 = .ok (.invokevirtual 72, 3) := by decide +kernel
theorem dX8_pass_29 : decode cX8_pass 29 = .ok (.aload_n 0, 1) := by decide +kernel
theorem dX8_pass_30 : decode cX8_pass 30 = .ok (.getfield 28, 3) := by decide +kernel
theorem dX8_pass_33 : decode cX8_pass 33 = .ok (.invokevirtual 215, 3) := by decide +kernel
theorem dX8_pass_36 : decode cX8_pass 36 = .ok (.ireturn, 1) := by decide +kernel
theorem dX8_give_0 : decode cX8_give 0 = .ok (.aload_n 0, 1) := by decide +kernel
theorem dX8_give_1 : decode cX8_give 1 = .ok (.iload_n 1, 1) := by decide +kernel
theorem dX8_give_2 : decode cX8_give 2 = .ok (.invokevirtual 119, 3) := by decide +kernel
theorem dX8_give_5 : decode cX8_give 5 = .ok (.astore 4, 2) := by decide +kernel
theorem dX8_give_7 : decode cX8_give 7 = .ok (.aload_n 0, 1) := by decide +kernel
theorem dX8_give_8 : decode cX8_give 8 = .ok (.iload_n 2, 1) := by decide +kernel
theorem dX8_give_9 : decode cX8_give 9 = .ok (.invokevirtual 164, 3) := by decide +kernel
theorem dX8_give_12 : decode cX8_give 12 = .ok (.istore 5, 2) := by decide +kernel
theorem dX8_give_14 : decode cX8_give 14 = .ok (.iload_n 3, 1) := by decide +kernel
theorem dX8_give_15 : decode cX8_give 15 = .ok (.iconst 1, 1) := by decide +kernel
theorem dX8_give_16 : decode cX8_give 16 = .ok (.if_icmp .lt 10, 3) := by decide +kernel
theorem dX8_give_19 : decode cX8_give 19 = .ok (.iload_n 3, 1) := by decide +kernel
theorem dX8_give_20 : decode cX8_give 20 = .ok (.sipush 999, 3) := by decide +kernel
theorem dX8_give_23 : decode cX8_give 23 = .ok (.if_icmp .le 11, 3) := by decide +kernel
theorem dX8_give_26 : decode cX8_give 26 = .ok (.new 62, 3) := by decide +kernel
theorem dX8_give_29 : decode cX8_give 29 = .ok (.dup, 1) := by decide +kernel
theorem dX8_give_30 : decode cX8_give 30 = .ok (.invokespecial 64, 3) := by decide +kernel
theorem dX8_give_33 : decode cX8_give 33 = .ok (.athrow, 1) := by decide +kernel
theorem dX8_give_34 : decode cX8_give 34 = .ok (.aload 4, 2) := by decide +kernel
theorem dX8_give_36 : decode cX8_give 36 = .ok (.getfield 128, 3) := by decide +kernel
theorem dX8_give_39 : decode cX8_give 39 = .ok (.invokevirtual 218, 3) := by decide +kernel
theorem dX8_give_42 : decode cX8_give 42 = .ok (.ifCond .eq 11, 3) := by decide +kernel
theorem dX8_give_45 : decode cX8_give 45 = .ok (.new 212, 3) := by decide +kernel
theorem dX8_give_48 : decode cX8_give 48 = .ok (.dup, 1) := by decide +kernel
theorem dX8_give_49 : decode cX8_give 49 = .ok (.invokespecial 214, 3) := by decide +kernel
theorem dX8_give_52 : decode cX8_give 52 = .ok (.athrow, 1) := by decide +kernel
theorem dX8_give_53 : decode cX8_give 53 = .ok (.aload_n 0, 1) := by decide +kernel
theorem dX8_give_54 : decode cX8_give 54 = .ok (.getfield 35, 3) := by decide +kernel
theorem dX8_give_57 : decode cX8_give 57 = .ok (.aload_n 0, 1) := by decide +kernel
theorem dX8_give_58 : decode cX8_give 58 = .ok (.getfield 28, 3) := by decide +kernel
theorem dX8_give_61 : decode cX8_give 61 = .ok (.invokevirtual 72, 3) := by decide +kernel
theorem dX8_give_64 : decode cX8_give 64 = .ok (.aload 4, 2) := by decide +kernel
theorem dX8_give_66 : decode cX8_give 66 = .ok (.iload 5, 2) := by decide +kernel
theorem dX8_give_68 : decode cX8_give 68 = .ok (.iload_n 3, 1) := by decide +kernel
theorem dX8_give_69 : decode cX8_give 69 = .ok (.invokevirtual 221, 3) := by decide +kernel
theorem dX8_give_72 : decode cX8_give 72 = .ok (.aload 4, 2) := by decide +kernel
theorem dX8_give_74 : decode cX8_give 74 = .ok (.getfield 128, 3) := by decide +kernel
theorem dX8_give_77 : decode cX8_give 77 = .ok (.invokevirtual 93, 3) := by decide +kernel
theorem dX8_give_80 : decode cX8_give 80 = .ok (.ireturn, 1) := by decide +kernel
theorem dX8_discard_0 : decode cX8_discard 0 = .ok (.aload_n 0, 1) := by decide +kernel
theorem dX8_discard_1 : decode cX8_discard 1 = .ok (.iload_n 1, 1) := by decide +kernel
theorem dX8_discard_2 : decode cX8_discard 2 = .ok (.invokevirtual 119, 3) := by decide +kernel
theorem dX8_discard_5 : decode cX8_discard 5 = .ok (.astore_n 3, 1) := by decide +kernel
theorem dX8_discard_6 : decode cX8_discard 6 = .ok (.aload_n 3, 1) := by decide +kernel
theorem dX8_discard_7 : decode cX8_discard 7 = .ok (.getfield 128, 3) := by decide +kernel
theorem dX8_discard_10 : decode cX8_discard 10 = .ok (.iload_n 2, 1) := by decide +kernel
theorem dX8_discard_11 : decode cX8_discard 11 = .ok (.invokevirtual 134, 3) := by decide +kernel
theorem dX8_discard_14 : decode cX8_discard 14 = .ok (.ifCond .ne 11, 3) := by decide +kernel
theorem dX8_discard_17 : decode cX8_discard 17 = .ok (.new 138, 3) := by decide +kernel
theorem dX8_discard_20 : decode cX8_discard 20 = .ok (.dup, 1) := by decide +kernel
theorem dX8_discard_21 : decode cX8_discard 21 = .ok (.invokespecial 140, 3) := by decide +kernel
theorem dX8_discard_24 : decode cX8_discard 24 = .ok (.athrow, 1) := by decide +kernel
theorem dX8_discard_25 : decode cX8_discard 25 = .ok (.aload_n 0, 1) := by decide +kernel
theorem dX8_discard_26 : decode cX8_discard 26 = .ok (.getfield 35, 3) := by decide +kernel
theorem dX8_discard_29 : decode cX8_discard 29 = .ok (.aload_n 0, 1) := by decide +kernel
theorem dX8_discard_30 : decode cX8_discard 30 = .ok (.getfield 28, 3) := by decide +kernel
theorem dX8_discard_33 : decode cX8_discard 33 = .ok (.invokevirtual 72, 3) := by decide +kernel
theorem dX8_discard_36 : decode cX8_discard 36 = .ok (.aload_n 3, 1) := by decide +kernel
theorem dX8_discard_37 : decode cX8_discard 37 = .ok (.getfield 128, 3) := by decide +kernel
theorem dX8_discard_40 : decode cX8_discard 40 = .ok (.iload_n 2, 1) := by decide +kernel
theorem dX8_discard_41 : decode cX8_discard 41 = .ok (.invokevirtual 141, 3) := by decide +kernel
theorem dX8_discard_44 : decode cX8_discard 44 = .ok (.istore 4, 2) := by decide +kernel
theorem dX8_discard_46 : decode cX8_discard 46 = .ok (.aload_n 3, 1) := by decide +kernel
theorem dX8_discard_47 : decode cX8_discard 47 = .ok (.iload_n 2, 1) := by decide +kernel
theorem dX8_discard_48 : decode cX8_discard 48 = .ok (.invokevirtual 225, 3) := by decide +kernel
theorem dX8_discard_51 : decode cX8_discard 51 = .ok (.aload_n 0, 1) := by decide +kernel
theorem dX8_discard_52 : decode cX8_discard 52 = .ok (.iload 4, 2) := by decide +kernel
theorem dX8_discard_54 : decode cX8_discard 54 = .ok (.invokevirtual 144, 3) := by decide +kernel
theorem dX8_discard_57 : decode cX8_discard 57 = .ok (.ireturn, 1) := by decide +kernel
theorem dX8_undo_0 : decode cX8_undo 0 = .ok (.aload_n 0, 1) := by decide +kernel
theorem dX8_undo_1 : decode cX8_undo 1 = .ok (.getfield 35, 3) := by decide +kernel
theorem dX8_undo_4 : decode cX8_undo 4 = .ok (.invokevirtual 228, 3) := by decide +kernel
theorem dX8_undo_7 : decode cX8_undo 7 = .ok (.ifCond .ne 5, 3) := by decide +kernel
theorem dX8_undo_10 : decode cX8_undo 10 = .ok (.iconst (-1), 1) := by decide +kernel
theorem dX8_undo_11 : decode cX8_undo 11 = .ok (.ireturn, 1) := by decide +kernel
theorem dX8_undo_12 : decode cX8_undo 12 = .ok (.aload_n 0, 1) := by decide +kernel
theorem dX8_undo_13 : decode cX8_undo 13 = .ok (.getfield 35, 3) := by decide +kernel
theorem dX8_undo_16 : decode cX8_undo 16 = .ok (.aload_n 0, 1) := by decide +kernel
theorem dX8_undo_17 : decode cX8_undo 17 = .ok (.getfield 28, 3) := by decide +kernel
theorem dX8_undo_20 : decode cX8_undo 20 = .ok (.invokevirtual 229, 3) := by decide +kernel
theorem dX8_undo_23 : decode cX8_undo 23 = .ok (.aload_n 0, 1) := by decide +kernel
theorem dX8_undo_24 : decode cX8_undo 24 = .ok (.getfield 35, 3) := by decide +kernel
theorem dX8_undo_27 : decode cX8_undo 27 = .ok (.invokevirtual 228, 3) := by decide +kernel
theorem dX8_undo_30 : decode cX8_undo 30 = .ok (.ireturn, 1) := by decide +kernel
theorem dX8_checksum_0 : decode cX8_checksum 0 = .ok (.lconst 0, 1) := by decide +kernel
theorem dX8_checksum_1 : decode cX8_checksum 1 = .ok (.lstore_n 1, 1) := by decide +kernel
theorem dX8_checksum_2 : decode cX8_checksum 2 = .ok (.iconst 0, 1) := by decide +kernel
theorem dX8_checksum_3 : decode cX8_checksum 3 = .ok (.istore_n 3, 1) := by decide +kernel
theorem dX8_checksum_4 : decode cX8_checksum 4 = .ok (.iload_n 3, 1) := by decide +kernel
theorem dX8_checksum_5 : decode cX8_checksum 5 = .ok (.bipush 8, 2) := by decide +kernel
theorem dX8_checksum_7 : decode cX8_checksum 7 = .ok (.if_icmp .gt 22, 3) := by decide +kernel
theorem dX8_checksum_10 : decode cX8_checksum 10 = .ok (.ldc2_w 232, 3) := by decide +kernel
theorem dX8_checksum_13 : decode cX8_checksum 13 = .ok (.lload_n 1, 1) := by decide +kernel
theorem dX8_checksum_14 : decode cX8_checksum 14 = .ok (.lmul, 1) := by decide +kernel
theorem dX8_checksum_15 : decode cX8_checksum 15 = .ok (.aload_n 0, 1) := by decide +kernel
theorem dX8_checksum_16 : decode cX8_checksum 16 = .ok (.iload_n 3, 1) := by decide +kernel
theorem dX8_checksum_17 : decode cX8_checksum 17 = .ok (.invokevirtual 234, 3) := by decide +kernel
theorem dX8_checksum_20 : decode cX8_checksum 20 = .ok (.i2l, 1) := by decide +kernel
theorem dX8_checksum_21 : decode cX8_checksum 21 = .ok (.ladd, 1) := by decide +kernel
theorem dX8_checksum_22 : decode cX8_checksum 22 = .ok (.lstore_n 1, 1) := by decide +kernel
theorem dX8_checksum_23 : decode cX8_checksum 23 = .ok (.iinc 3 1, 3) := by decide +kernel
theorem dX8_checksum_26 : decode cX8_checksum 26 = .ok (.goto (-22), 3) := by decide +kernel
theorem dX8_checksum_29 : decode cX8_checksum 29 = .ok (.iconst 0, 1) := by decide +kernel
theorem dX8_checksum_30 : decode cX8_checksum 30 = .ok (.istore_n 3, 1) := by decide +kernel
theorem dX8_checksum_31 : decode cX8_checksum 31 = .ok (.iload_n 3, 1) := by decide +kernel
theorem dX8_checksum_32 : decode cX8_checksum 32 = .ok (.aload_n 0, 1) := by decide +kernel
theorem dX8_checksum_33 : decode cX8_checksum 33 = .ok (.getfield 28, 3) := by decide +kernel
theorem dX8_checksum_36 : decode cX8_checksum 36 = .ok (.getfield 83, 3) := by decide +kernel
theorem dX8_checksum_39 : decode cX8_checksum 39 = .ok (.if_icmp .ge 16, 3) := by decide +kernel
theorem dX8_checksum_42 : decode cX8_checksum 42 = .ok (.aload_n 0, 1) := by decide +kernel
theorem dX8_checksum_43 : decode cX8_checksum 43 = .ok (.lload_n 1, 1) := by decide +kernel
theorem dX8_checksum_44 : decode cX8_checksum 44 = .ok (.iload_n 3, 1) := by decide +kernel
theorem dX8_checksum_45 : decode cX8_checksum 45 = .ok (.invokevirtual 237, 3) := by decide +kernel
theorem dX8_checksum_48 : decode cX8_checksum 48 = .ok (.lstore_n 1, 1) := by decide +kernel
theorem dX8_checksum_49 : decode cX8_checksum 49 = .ok (.iinc 3 1, 3) := by decide +kernel
theorem dX8_checksum_52 : decode cX8_checksum 52 = .ok (.goto (-21), 3) := by decide +kernel
theorem dX8_checksum_55 : decode cX8_checksum 55 = .ok (.iconst 0, 1) := by decide +kernel
theorem dX8_checksum_56 : decode cX8_checksum 56 = .ok (.istore_n 3, 1) := by decide +kernel
theorem dX8_checksum_57 : decode cX8_checksum 57 = .ok (.iload_n 3, 1) := by decide +kernel
theorem dX8_checksum_58 : decode cX8_checksum 58 = .ok (.aload_n 0, 1) := by decide +kernel
theorem dX8_checksum_59 : decode cX8_checksum 59 = .ok (.getfield 28, 3) := by decide +kernel
theorem dX8_checksum_62 : decode cX8_checksum 62 = .ok (.getfield 107, 3) := by decide +kernel
theorem dX8_checksum_65 : decode cX8_checksum 65 = .ok (.invokevirtual 93, 3) := by decide +kernel
theorem dX8_checksum_68 : decode cX8_checksum 68 = .ok (.if_icmp .ge 39, 3) := by decide +kernel
theorem dX8_checksum_71 : decode cX8_checksum 71 = .ok (.iconst 0, 1) := by decide +kernel
theorem dX8_checksum_72 : decode cX8_checksum 72 = .ok (.istore 4, 2) := by decide +kernel
theorem dX8_checksum_74 : decode cX8_checksum 74 = .ok (.iload 4, 2) := by decide +kernel
theorem dX8_checksum_76 : decode cX8_checksum 76 = .ok (.iconst 2, 1) := by decide +kernel
theorem dX8_checksum_77 : decode cX8_checksum 77 = .ok (.if_icmp .gt 24, 3) := by decide +kernel
theorem dX8_checksum_80 : decode cX8_checksum 80 = .ok (.ldc2_w 232, 3) := by decide +kernel
theorem dX8_checksum_83 : decode cX8_checksum 83 = .ok (.lload_n 1, 1) := by decide +kernel
theorem dX8_checksum_84 : decode cX8_checksum 84 = .ok (.lmul, 1) := by decide +kernel
theorem dX8_checksum_85 : decode cX8_checksum 85 = .ok (.aload_n 0, 1) := by decide +kernel
theorem dX8_checksum_86 : decode cX8_checksum 86 = .ok (.iload_n 3, 1) := by decide +kernel
theorem dX8_checksum_87 : decode cX8_checksum 87 = .ok (.iload 4, 2) := by decide +kernel
theorem dX8_checksum_89 : decode cX8_checksum 89 = .ok (.invokevirtual 241, 3) := by decide +kernel
theorem dX8_checksum_92 : decode cX8_checksum 92 = .ok (.i2l, 1) := by decide +kernel
theorem dX8_checksum_93 : decode cX8_checksum 93 = .ok (.ladd, 1) := by decide +kernel
theorem dX8_checksum_94 : decode cX8_checksum 94 = .ok (.lstore_n 1, 1) := by decide +kernel
theorem dX8_checksum_95 : decode cX8_checksum 95 = .ok (.iinc 4 1, 3) := by decide +kernel
theorem dX8_checksum_98 : decode cX8_checksum 98 = .ok (.goto (-24), 3) := by decide +kernel
theorem dX8_checksum_101 : decode cX8_checksum 101 = .ok (.iinc 3 1, 3) := by decide +kernel
theorem dX8_checksum_104 : decode cX8_checksum 104 = .ok (.goto (-47), 3) := by decide +kernel
theorem dX8_checksum_107 : decode cX8_checksum 107 = .ok (.ldc2_w 232, 3) := by decide +kernel
theorem dX8_checksum_110 : decode cX8_checksum 110 = .ok (.lload_n 1, 1) := by decide +kernel
theorem dX8_checksum_111 : decode cX8_checksum 111 = .ok (.lmul, 1) := by decide +kernel
theorem dX8_checksum_112 : decode cX8_checksum 112 = .ok (.aload_n 0, 1) := by decide +kernel
theorem dX8_checksum_113 : decode cX8_checksum 113 = .ok (.invokevirtual 244, 3) := by decide +kernel
theorem dX8_checksum_116 : decode cX8_checksum 116 = .ok (.i2l, 1) := by decide +kernel
theorem dX8_checksum_117 : decode cX8_checksum 117 = .ok (.ladd, 1) := by decide +kernel
theorem dX8_checksum_118 : decode cX8_checksum 118 = .ok (.lreturn, 1) := by decide +kernel
theorem dX8_withPlayer_0 : decode cX8_withPlayer 0 = .ok (.lload_n 1, 1) := by decide +kernel
theorem dX8_withPlayer_1 : decode cX8_withPlayer 1 = .ok (.lstore 4, 2) := by decide +kernel
theorem dX8_withPlayer_3 : decode cX8_withPlayer 3 = .ok (.iconst 0, 1) := by decide +kernel
theorem dX8_withPlayer_4 : decode cX8_withPlayer 4 = .ok (.istore 6, 2) := by decide +kernel
theorem dX8_withPlayer_6 : decode cX8_withPlayer 6 = .ok (.iload 6, 2) := by decide +kernel
theorem dX8_withPlayer_8 : decode cX8_withPlayer 8 = .ok (.iconst 2, 1) := by decide +kernel
theorem dX8_withPlayer_9 : decode cX8_withPlayer 9 = .ok (.if_icmp .gt 26, 3) := by decide +kernel
theorem dX8_withPlayer_12 : decode cX8_withPlayer 12 = .ok (.ldc2_w 232, 3) := by decide +kernel
theorem dX8_withPlayer_15 : decode cX8_withPlayer 15 = .ok (.lload 4, 2) := by decide +kernel
theorem dX8_withPlayer_17 : decode cX8_withPlayer 17 = .ok (.lmul, 1) := by decide +kernel
theorem dX8_withPlayer_18 : decode cX8_withPlayer 18 = .ok (.aload_n 0, 1) := by decide +kernel
theorem dX8_withPlayer_19 : decode cX8_withPlayer 19 = .ok (.iload_n 3, 1) := by decide +kernel
theorem dX8_withPlayer_20 : decode cX8_withPlayer 20 = .ok (.iload 6, 2) := by decide +kernel
theorem dX8_withPlayer_22 : decode cX8_withPlayer 22 = .ok (.invokevirtual 247, 3) := by decide +kernel
theorem dX8_withPlayer_25 : decode cX8_withPlayer 25 = .ok (.i2l, 1) := by decide +kernel
theorem dX8_withPlayer_26 : decode cX8_withPlayer 26 = .ok (.ladd, 1) := by decide +kernel
theorem dX8_withPlayer_27 : decode cX8_withPlayer 27 = .ok (.lstore 4, 2) := by decide +kernel
theorem dX8_withPlayer_29 : decode cX8_withPlayer 29 = .ok (.iinc 6 1, 3) := by decide +kernel
theorem dX8_withPlayer_32 : decode cX8_withPlayer 32 = .ok (.goto (-26), 3) := by decide +kernel
theorem dX8_withPlayer_35 : decode cX8_withPlayer 35 = .ok (.aload_n 0, 1) := by decide +kernel
theorem dX8_withPlayer_36 : decode cX8_withPlayer 36 = .ok (.iload_n 3, 1) := by decide +kernel
theorem dX8_withPlayer_37 : decode cX8_withPlayer 37 = .ok (.iconst 1, 1) := by decide +kernel
theorem dX8_withPlayer_38 : decode cX8_withPlayer 38 = .ok (.invokevirtual 247, 3) := by decide +kernel
theorem dX8_withPlayer_41 : decode cX8_withPlayer 41 = .ok (.istore 6, 2) := by decide +kernel
theorem dX8_withPlayer_43 : decode cX8_withPlayer 43 = .ok (.iconst 0, 1) := by decide +kernel
theorem dX8_withPlayer_44 : decode cX8_withPlayer 44 = .ok (.istore 7, 2) := by decide +kernel
theorem dX8_withPlayer_46 : decode cX8_withPlayer 46 = .ok (.iload 7, 2) := by decide +kernel
theorem dX8_withPlayer_48 : decode cX8_withPlayer 48 = .ok (.iload 6, 2) := by decide +kernel
theorem dX8_withPlayer_50 : decode cX8_withPlayer 50 = .ok (.if_icmp .ge 43, 3) := by decide +kernel
theorem dX8_withPlayer_53 : decode cX8_withPlayer 53 = .ok (.iconst 0, 1) := by decide +kernel
theorem dX8_withPlayer_54 : decode cX8_withPlayer 54 = .ok (.istore 8, 2) := by decide +kernel
theorem dX8_withPlayer_56 : decode cX8_withPlayer 56 = .ok (.iload 8, 2) := by decide +kernel
theorem dX8_withPlayer_58 : decode cX8_withPlayer 58 = .ok (.iconst 2, 1) := by decide +kernel
theorem dX8_withPlayer_59 : decode cX8_withPlayer 59 = .ok (.if_icmp .gt 28, 3) := by decide +kernel
theorem dX8_withPlayer_62 : decode cX8_withPlayer 62 = .ok (.ldc2_w 232, 3) := by decide +kernel
theorem dX8_withPlayer_65 : decode cX8_withPlayer 65 = .ok (.lload 4, 2) := by decide +kernel
theorem dX8_withPlayer_67 : decode cX8_withPlayer 67 = .ok (.lmul, 1) := by decide +kernel
theorem dX8_withPlayer_68 : decode cX8_withPlayer 68 = .ok (.aload_n 0, 1) := by decide +kernel
theorem dX8_withPlayer_69 : decode cX8_withPlayer 69 = .ok (.iload_n 3, 1) := by decide +kernel
theorem dX8_withPlayer_70 : decode cX8_withPlayer 70 = .ok (.iload 7, 2) := by decide +kernel
theorem dX8_withPlayer_72 : decode cX8_withPlayer 72 = .ok (.iload 8, 2) := by decide +kernel
theorem dX8_withPlayer_74 : decode cX8_withPlayer 74 = .ok (.invokevirtual 250, 3) := by decide +kernel
theorem dX8_withPlayer_77 : decode cX8_withPlayer 77 = .ok (.i2l, 1) := by decide +kernel
theorem dX8_withPlayer_78 : decode cX8_withPlayer 78 = .ok (.ladd, 1) := by decide +kernel
theorem dX8_withPlayer_79 : decode cX8_withPlayer 79 = .ok (.lstore 4, 2) := by decide +kernel
theorem dX8_withPlayer_81 : decode cX8_withPlayer 81 = .ok (.iinc 8 1, 3) := by decide +kernel
theorem dX8_withPlayer_84 : decode cX8_withPlayer 84 = .ok (.goto (-28), 3) := by decide +kernel
theorem dX8_withPlayer_87 : decode cX8_withPlayer 87 = .ok (.iinc 7 1, 3) := by decide +kernel
theorem dX8_withPlayer_90 : decode cX8_withPlayer 90 = .ok (.goto (-44), 3) := by decide +kernel
theorem dX8_withPlayer_93 : decode cX8_withPlayer 93 = .ok (.lload 4, 2) := by decide +kernel
theorem dX8_withPlayer_95 : decode cX8_withPlayer 95 = .ok (.lreturn, 1) := by decide +kernel
theorem dX8_existing_0 : decode cX8_existing 0 = .ok (.aload_n 0, 1) := by decide +kernel
theorem dX8_existing_1 : decode cX8_existing 1 = .ok (.getfield 28, 3) := by decide +kernel
theorem dX8_existing_4 : decode cX8_existing 4 = .ok (.iload_n 1, 1) := by decide +kernel
theorem dX8_existing_5 : decode cX8_existing 5 = .ok (.invokevirtual 254, 3) := by decide +kernel
theorem dX8_existing_8 : decode cX8_existing 8 = .ok (.astore_n 2, 1) := by decide +kernel
theorem dX8_existing_9 : decode cX8_existing 9 = .ok (.aload_n 2, 1) := by decide +kernel
theorem dX8_existing_10 : decode cX8_existing 10 = .ok (.ifnonnull 11, 3) := by decide +kernel
theorem dX8_existing_13 : decode cX8_existing 13 = .ok (.new 257, 3) := by decide +kernel
theorem dX8_existing_16 : decode cX8_existing 16 = .ok (.dup, 1) := by decide +kernel
theorem dX8_existing_17 : decode cX8_existing 17 = .ok (.invokespecial 259, 3) := by decide +kernel
theorem dX8_existing_20 : decode cX8_existing 20 = .ok (.athrow, 1) := by decide +kernel
theorem dX8_existing_21 : decode cX8_existing 21 = .ok (.aload_n 2, 1) := by decide +kernel
theorem dX8_existing_22 : decode cX8_existing 22 = .ok (.areturn, 1) := by decide +kernel
theorem dX8_bidderInTurn_0 : decode cX8_bidderInTurn 0 = .ok (.aload_n 0, 1) := by decide +kernel
theorem dX8_bidderInTurn_1 : decode cX8_bidderInTurn 1 = .ok (.getfield 28, 3) := by decide +kernel
theorem dX8_bidderInTurn_4 : decode cX8_bidderInTurn 4 = .ok (.invokevirtual 98, 3) := by decide +kernel
theorem dX8_bidderInTurn_7 : decode cX8_bidderInTurn 7 = .ok (.ifCond .eq 7, 3) := by decide +kernel
theorem dX8_bidderInTurn_10 : decode cX8_bidderInTurn 10 = .ok (.aconst_null, 1) := by decide +kernel
theorem dX8_bidderInTurn_11 : decode cX8_bidderInTurn 11 = .ok (.goto 17, 3) := by decide +kernel
theorem dX8_bidderInTurn_14 : decode cX8_bidderInTurn 14 = .ok (.aload_n 0, 1) := by decide +kernel
theorem dX8_bidderInTurn_15 : decode cX8_bidderInTurn 15 = .ok (.getfield 28, 3) := by decide +kernel
theorem dX8_bidderInTurn_18 : decode cX8_bidderInTurn 18 = .ok (.aload_n 0, 1) := by decide +kernel
theorem dX8_bidderInTurn_19 : decode cX8_bidderInTurn 19 = .ok (.getfield 28, 3) := by decide +kernel
theorem dX8_bidderInTurn_22 : decode cX8_bidderInTurn 22 = .ok (.getfield 104, 3) := by decide +kernel
theorem dX8_bidderInTurn_25 : decode cX8_bidderInTurn 25 = .ok (.invokevirtual 254, 3) := by decide +kernel
theorem dX8_bidderInTurn_28 : decode cX8_bidderInTurn 28 = .ok (.astore_n 1, 1) := by decide +kernel
theorem dX8_bidderInTurn_29 : decode cX8_bidderInTurn 29 = .ok (.aload_n 1, 1) := by decide +kernel
theorem dX8_bidderInTurn_30 : decode cX8_bidderInTurn 30 = .ok (.ifnonnull 11, 3) := by decide +kernel
theorem dX8_bidderInTurn_33 : decode cX8_bidderInTurn 33 = .ok (.new 212, 3) := by decide +kernel
theorem dX8_bidderInTurn_36 : decode cX8_bidderInTurn 36 = .ok (.dup, 1) := by decide +kernel
theorem dX8_bidderInTurn_37 : decode cX8_bidderInTurn 37 = .ok (.invokespecial 214, 3) := by decide +kernel
theorem dX8_bidderInTurn_40 : decode cX8_bidderInTurn 40 = .ok (.athrow, 1) := by decide +kernel
theorem dX8_bidderInTurn_41 : decode cX8_bidderInTurn 41 = .ok (.aload_n 1, 1) := by decide +kernel
theorem dX8_bidderInTurn_42 : decode cX8_bidderInTurn 42 = .ok (.areturn, 1) := by decide +kernel
theorem dX8_elementOf_0 : decode cX8_elementOf 0 = .ok (.aload_n 0, 1) := by decide +kernel
theorem dX8_elementOf_1 : decode cX8_elementOf 1 = .ok (.getfield 10, 3) := by decide +kernel
theorem dX8_elementOf_4 : decode cX8_elementOf 4 = .ok (.iload_n 1, 1) := by decide +kernel
theorem dX8_elementOf_5 : decode cX8_elementOf 5 = .ok (.aload_n 0, 1) := by decide +kernel
theorem dX8_elementOf_6 : decode cX8_elementOf 6 = .ok (.getfield 28, 3) := by decide +kernel
theorem dX8_elementOf_9 : decode cX8_elementOf 9 = .ok (.getfield 86, 3) := by decide +kernel
theorem dX8_elementOf_12 : decode cX8_elementOf 12 = .ok (.invokevirtual 260, 3) := by decide +kernel
theorem dX8_elementOf_15 : decode cX8_elementOf 15 = .ok (.istore_n 2, 1) := by decide +kernel
theorem dX8_elementOf_16 : decode cX8_elementOf 16 = .ok (.iload_n 2, 1) := by decide +kernel
theorem dX8_elementOf_17 : decode cX8_elementOf 17 = .ok (.iconst (-1), 1) := by decide +kernel
theorem dX8_elementOf_18 : decode cX8_elementOf 18 = .ok (.if_icmp .ne 11, 3) := by decide +kernel
theorem dX8_elementOf_21 : decode cX8_elementOf 21 = .ok (.new 62, 3) := by decide +kernel
theorem dX8_elementOf_24 : decode cX8_elementOf 24 = .ok (.dup, 1) := by decide +kernel
theorem dX8_elementOf_25 : decode cX8_elementOf 25 = .ok (.invokespecial 64, 3) := by decide +kernel
theorem dX8_elementOf_28 : decode cX8_elementOf 28 = .ok (.athrow, 1) := by decide +kernel
theorem dX8_elementOf_29 : decode cX8_elementOf 29 = .ok (.iload_n 2, 1) := by decide +kernel
theorem dX8_elementOf_30 : decode cX8_elementOf 30 = .ok (.ireturn, 1) := by decide +kernel
theorem dX8_numberOf_0 : decode cX8_numberOf 0 = .ok (.aload_n 0, 1) := by decide +kernel
theorem dX8_numberOf_1 : decode cX8_numberOf 1 = .ok (.getfield 10, 3) := by decide +kernel
theorem dX8_numberOf_4 : decode cX8_numberOf 4 = .ok (.iload_n 1, 1) := by decide +kernel
theorem dX8_numberOf_5 : decode cX8_numberOf 5 = .ok (.aload_n 0, 1) := by decide +kernel
theorem dX8_numberOf_6 : decode cX8_numberOf 6 = .ok (.getfield 28, 3) := by decide +kernel
theorem dX8_numberOf_9 : decode cX8_numberOf 9 = .ok (.getfield 86, 3) := by decide +kernel
theorem dX8_numberOf_12 : decode cX8_numberOf 12 = .ok (.invokevirtual 263, 3) := by decide +kernel
theorem dX8_numberOf_15 : decode cX8_numberOf 15 = .ok (.ireturn, 1) := by decide +kernel
theorem dX9_init_0 : decode cX9_init 0 = .ok (.aload_n 0, 1) := by decide +kernel
theorem dX9_init_1 : decode cX9_init 1 = .ok (.invokespecial 3, 3) := by decide +kernel
theorem dX9_init_4 : decode cX9_init 4 = .ok (.aload_n 0, 1) := by decide +kernel
theorem dX9_init_5 : decode cX9_init 5 = .ok (.sipush 700, 3) := by decide +kernel
theorem dX9_init_8 : decode cX9_init 8 = .ok (.newarray .int, 2) := by decide +kernel
theorem dX9_init_10 : decode cX9_init 10 = .ok (.putfield 9, 3) := by decide +kernel
theorem dX9_init_13 : decode cX9_init 13 = .ok (.aload_n 0, 1) := by decide +kernel
theorem dX9_init_14 : decode cX9_init 14 = .ok (.iconst (-1), 1) := by decide +kernel
theorem dX9_init_15 : decode cX9_init 15 = .ok (.putfield 13, 3) := by decide +kernel
theorem dX9_init_18 : decode cX9_init 18 = .ok (.aload_n 0, 1) := by decide +kernel
theorem dX9_init_19 : decode cX9_init 19 = .ok (.sipush 1378, 3) := by decide +kernel
theorem dX9_init_22 : decode cX9_init 22 = .ok (.newarray .int, 2) := by decide +kernel
theorem dX9_init_24 : decode cX9_init 24 = .ok (.putfield 17, 3) := by decide +kernel
theorem dX9_init_27 : decode cX9_init 27 = .ok (.aload_n 0, 1) := by decide +kernel
theorem dX9_init_28 : decode cX9_init 28 = .ok (.sipush 1378, 3) := by decide +kernel
theorem dX9_init_31 : decode cX9_init 31 = .ok (.newarray .int, 2) := by decide +kernel
theorem dX9_init_33 : decode cX9_init 33 = .ok (.putfield 20, 3) := by decide +kernel
theorem dX9_init_36 : decode cX9_init 36 = .ok (.aload_n 0, 1) := by decide +kernel
theorem dX9_init_37 : decode cX9_init 37 = .ok (.bipush 8, 2) := by decide +kernel
theorem dX9_init_39 : decode cX9_init 39 = .ok (.sipush 1378, 3) := by decide +kernel
theorem dX9_init_42 : decode cX9_init 42 = .ok (.multianewarray 23 2, 4) := by decide +kernel
theorem dX9_init_46 : decode cX9_init 46 = .ok (.putfield 25, 3) := by decide +kernel
theorem dX9_init_49 : decode cX9_init 49 = .ok (.aload_n 0, 1) := by decide +kernel
theorem dX9_init_50 : decode cX9_init 50 = .ok (.sipush 1200, 3) := by decide +kernel
theorem dX9_init_53 : decode cX9_init 53 = .ok (.newarray .long, 2) := by decide +kernel
theorem dX9_init_55 : decode cX9_init 55 = .ok (.putfield 28, 3) := by decide +kernel
theorem dX9_init_58 : decode cX9_init 58 = .ok (.aload_n 0, 1) := by decide +kernel
theorem dX9_init_59 : decode cX9_init 59 = .ok (.bipush 120, 2) := by decide +kernel
theorem dX9_init_61 : decode cX9_init 61 = .ok (.newarray .int, 2) := by decide +kernel
theorem dX9_init_63 : decode cX9_init 63 = .ok (.putfield 32, 3) := by decide +kernel
theorem dX9_init_66 : decode cX9_init 66 = .ok (.aload_n 0, 1) := by decide +kernel
theorem dX9_init_67 : decode cX9_init 67 = .ok (.ldc 35, 2) := by decide +kernel
theorem dX9_init_69 : decode cX9_init 69 = .ok (.newarray .int, 2) := by decide +kernel
theorem dX9_init_71 : decode cX9_init 71 = .ok (.putfield 36, 3) := by decide +kernel
theorem dX9_init_74 : decode cX9_init 74 = .ok (.aload_n 0, 1) := by decide +kernel
theorem dX9_init_75 : decode cX9_init 75 = .ok (.sipush 30720, 3) := by decide +kernel
theorem dX9_init_78 : decode cX9_init 78 = .ok (.newarray .boolean, 2) := by decide +kernel
theorem dX9_init_80 : decode cX9_init 80 = .ok (.putfield 39, 3) := by decide +kernel
theorem dX9_init_83 : decode cX9_init 83 = .ok (.aload_n 0, 1) := by decide +kernel
theorem dX9_init_84 : decode cX9_init 84 = .ok (.bipush 120, 2) := by decide +kernel
theorem dX9_init_86 : decode cX9_init 86 = .ok (.newarray .int, 2) := by decide +kernel
theorem dX9_init_88 : decode cX9_init 88 = .ok (.putfield 43, 3) := by decide +kernel
theorem dX9_init_91 : decode cX9_init 91 = .ok (.aload_n 0, 1) := by decide +kernel
theorem dX9_init_92 : decode cX9_init 92 = .ok (.getfield 17, 3) := by decide +kernel
theorem dX9_init_95 : decode cX9_init 95 = .ok (.iconst 0, 1) := by decide +kernel
theorem dX9_init_96 : decode cX9_init 96 = .ok (.iconst 2, 1) := by decide +kernel
theorem dX9_init_97 : decode cX9_init 97 = .ok (.iastore, 1) := by decide +kernel
theorem dX9_init_98 : decode cX9_init 98 = .ok (.return_, 1) := by decide +kernel
theorem dX9_thrown_0 : decode cX9_thrown 0 = .ok (.aload_n 0, 1) := by decide +kernel
theorem dX9_thrown_1 : decode cX9_thrown 1 = .ok (.getfield 46, 3) := by decide +kernel
theorem dX9_thrown_4 : decode cX9_thrown 4 = .ok (.ireturn, 1) := by decide +kernel
theorem dX9_fails_0 : decode cX9_fails 0 = .ok (.iload_n 1, 1) := by decide +kernel
theorem dX9_fails_1 : decode cX9_fails 1 = .ok (.ifCond .eq 15, 3) := by decide +kernel
theorem dX9_fails_4 : decode cX9_fails 4 = .ok (.aload_n 0, 1) := by decide +kernel
theorem dX9_fails_5 : decode cX9_fails 5 = .ok (.getfield 46, 3) := by decide +kernel
theorem dX9_fails_8 : decode cX9_fails 8 = .ok (.ifCond .ne 8, 3) := by decide +kernel
theorem dX9_fails_11 : decode cX9_fails 11 = .ok (.aload_n 0, 1) := by decide +kernel
theorem dX9_fails_12 : decode cX9_fails 12 = .ok (.iload_n 2, 1) := by decide +kernel
theorem dX9_fails_13 : decode cX9_fails 13 = .ok (.putfield 46, 3) := by decide +kernel
theorem dX9_fails_16 : decode cX9_fails 16 = .ok (.aload_n 0, 1) := by decide +kernel
theorem dX9_fails_17 : decode cX9_fails 17 = .ok (.getfield 46, 3) := by decide +kernel
theorem dX9_fails_20 : decode cX9_fails 20 = .ok (.ifCond .eq 7, 3) := by decide +kernel
theorem dX9_fails_23 : decode cX9_fails 23 = .ok (.iconst 1, 1) := by decide +kernel
theorem dX9_fails_24 : decode cX9_fails 24 = .ok (.goto 4, 3) := by decide +kernel
theorem dX9_fails_27 : decode cX9_fails 27 = .ok (.iconst 0, 1) := by decide +kernel
theorem dX9_fails_28 : decode cX9_fails 28 = .ok (.ireturn, 1) := by decide +kernel
theorem dX9_in_0 : decode cX9_in 0 = .ok (.iload_n 0, 1) := by decide +kernel
theorem dX9_in_1 : decode cX9_in 1 = .ok (.iload_n 1, 1) := by decide +kernel
theorem dX9_in_2 : decode cX9_in 2 = .ok (.if_icmp .lt 12, 3) := by decide +kernel
theorem dX9_in_5 : decode cX9_in 5 = .ok (.iload_n 0, 1) := by decide +kernel
theorem dX9_in_6 : decode cX9_in 6 = .ok (.iload_n 2, 1) := by decide +kernel
theorem dX9_in_7 : decode cX9_in 7 = .ok (.if_icmp .gt 7, 3) := by decide +kernel
theorem dX9_in_10 : decode cX9_in 10 = .ok (.iconst 1, 1) := by decide +kernel
theorem dX9_in_11 : decode cX9_in 11 = .ok (.goto 4, 3) := by decide +kernel
theorem dX9_in_14 : decode cX9_in 14 = .ok (.iconst 0, 1) := by decide +kernel
theorem dX9_in_15 : decode cX9_in 15 = .ok (.ireturn, 1) := by decide +kernel
theorem dX9_min_0 : decode cX9_min 0 = .ok (.iload_n 0, 1) := by decide +kernel
theorem dX9_min_1 : decode cX9_min 1 = .ok (.iload_n 1, 1) := by decide +kernel
theorem dX9_min_2 : decode cX9_min 2 = .ok (.if_icmp .ge 7, 3) := by decide +kernel
theorem dX9_min_5 : decode cX9_min 5 = .ok (.iload_n 0, 1) := by decide +kernel
theorem dX9_min_6 : decode cX9_min 6 = .ok (.goto 4, 3) := by decide +kernel
theorem dX9_min_9 : decode cX9_min 9 = .ok (.iload_n 1, 1) := by decide +kernel
theorem dX9_min_10 : decode cX9_min 10 = .ok (.ireturn, 1) := by decide +kernel
theorem dX9_copy_0 : decode cX9_copy 0 = .ok (.iconst 0, 1) := by decide +kernel
theorem dX9_copy_1 : decode cX9_copy 1 = .ok (.istore_n 2, 1) := by decide +kernel
theorem dX9_copy_2 : decode cX9_copy 2 = .ok (.iload_n 2, 1) := by decide +kernel
theorem dX9_copy_3 : decode cX9_copy 3 = .ok (.sipush 1378, 3) := by decide +kernel
theorem dX9_copy_6 : decode cX9_copy 6 = .ok (.if_icmp .ge 15, 3) := by decide +kernel
theorem dX9_copy_9 : decode cX9_copy 9 = .ok (.aload_n 1, 1) := by decide +kernel
theorem dX9_copy_10 : decode cX9_copy 10 = .ok (.iload_n 2, 1) := by decide +kernel
theorem dX9_copy_11 : decode cX9_copy 11 = .ok (.aload_n 0, 1) := by decide +kernel
theorem dX9_copy_12 : decode cX9_copy 12 = .ok (.iload_n 2, 1) := by decide +kernel
theorem dX9_copy_13 : decode cX9_copy 13 = .ok (.iaload, 1) := by decide +kernel
theorem dX9_copy_14 : decode cX9_copy 14 = .ok (.iastore, 1) := by decide +kernel
theorem dX9_copy_15 : decode cX9_copy 15 = .ok (.iinc 2 1, 3) := by decide +kernel
theorem dX9_copy_18 : decode cX9_copy 18 = .ok (.goto (-16), 3) := by decide +kernel
theorem dX9_copy_21 : decode cX9_copy 21 = .ok (.return_, 1) := by decide +kernel
theorem dX9_digit_0 : decode cX9_digit 0 = .ok (.iload_n 0, 1) := by decide +kernel
theorem dX9_digit_1 : decode cX9_digit 1 = .ok (.istore_n 3, 1) := by decide +kernel
theorem dX9_digit_2 : decode cX9_digit 2 = .ok (.iload_n 2, 1) := by decide +kernel
theorem dX9_digit_3 : decode cX9_digit 3 = .ok (.istore 4, 2) := by decide +kernel
theorem dX9_digit_5 : decode cX9_digit 5 = .ok (.iload 4, 2) := by decide +kernel
theorem dX9_digit_7 : decode cX9_digit 7 = .ok (.iload_n 1, 1) := by decide +kernel
theorem dX9_digit_8 : decode cX9_digit 8 = .ok (.if_icmp .le 14, 3) := by decide +kernel
theorem dX9_digit_11 : decode cX9_digit 11 = .ok (.iload_n 3, 1) := by decide +kernel
theorem dX9_digit_12 : decode cX9_digit 12 = .ok (.bipush 10, 2) := by decide +kernel
theorem dX9_digit_14 : decode cX9_digit 14 = .ok (.idiv, 1) := by decide +kernel
theorem dX9_digit_15 : decode cX9_digit 15 = .ok (.istore_n 3, 1) := by decide +kernel
theorem dX9_digit_16 : decode cX9_digit 16 = .ok (.iinc 4 (-1), 3) := by decide +kernel
theorem dX9_digit_19 : decode cX9_digit 19 = .ok (.goto (-14), 3) := by decide +kernel
theorem dX9_digit_22 : decode cX9_digit 22 = .ok (.iload_n 3, 1) := by decide +kernel
theorem dX9_digit_23 : decode cX9_digit 23 = .ok (.bipush 10, 2) := by decide +kernel
theorem dX9_digit_25 : decode cX9_digit 25 = .ok (.irem, 1) := by decide +kernel
theorem dX9_digit_26 : decode cX9_digit 26 = .ok (.ireturn, 1) := by decide +kernel
theorem dX9_neutral_0 : decode cX9_neutral 0 = .ok (.iload_n 0, 1) := by decide +kernel
theorem dX9_neutral_1 : decode cX9_neutral 1 = .ok (.iconst 2, 1) := by decide +kernel
theorem dX9_neutral_2 : decode cX9_neutral 2 = .ok (.if_icmp .ne 8, 3) := by decide +kernel
theorem dX9_neutral_5 : decode cX9_neutral 5 = .ok (.bipush 12, 2) := by decide +kernel
theorem dX9_neutral_7 : decode cX9_neutral 7 = .ok (.goto 27, 3) := by decide +kernel
theorem dX9_neutral_10 : decode cX9_neutral 10 = .ok (.iload_n 0, 1) := by decide +kernel
theorem dX9_neutral_11 : decode cX9_neutral 11 = .ok (.iconst 3, 1) := by decide +kernel
theorem dX9_neutral_12 : decode cX9_neutral 12 = .ok (.if_icmp .ne 8, 3) := by decide +kernel
theorem dX9_neutral_15 : decode cX9_neutral 15 = .ok (.bipush 123, 2) := by decide +kernel
theorem dX9_neutral_17 : decode cX9_neutral 17 = .ok (.goto 17, 3) := by decide +kernel
theorem dX9_neutral_20 : decode cX9_neutral 20 = .ok (.iload_n 0, 1) := by decide +kernel
theorem dX9_neutral_21 : decode cX9_neutral 21 = .ok (.iconst 4, 1) := by decide +kernel
theorem dX9_neutral_22 : decode cX9_neutral 22 = .ok (.if_icmp .ne 9, 3) := by decide +kernel
theorem dX9_neutral_25 : decode cX9_neutral 25 = .ok (.sipush 1234, 3) := by decide +kernel
theorem dX9_neutral_28 : decode cX9_neutral 28 = .ok (.goto 6, 3) := by decide +kernel
theorem dX9_neutral_31 : decode cX9_neutral 31 = .ok (.sipush 12345, 3) := by decide +kernel
theorem dX9_neutral_34 : decode cX9_neutral 34 = .ok (.ireturn, 1) := by decide +kernel
theorem dX9_isElement_0 : decode cX9_isElement 0 = .ok (.iload_n 0, 1) := by decide +kernel
theorem dX9_isElement_1 : decode cX9_isElement 1 = .ok (.bipush 12, 2) := by decide +kernel
theorem dX9_isElement_3 : decode cX9_isElement 3 = .ok (.if_icmp .lt 9, 3) := by decide +kernel
theorem dX9_isElement_6 : decode cX9_isElement 6 = .ok (.iload_n 0, 1) := by decide +kernel
theorem dX9_isElement_7 : decode cX9_isElement 7 = .ok (.ldc 49, 2) := by decide +kernel
theorem dX9_isElement_9 : decode cX9_isElement 9 = .ok (.if_icmp .le 5, 3) := by decide +kernel
theorem dX9_isElement_12 : decode cX9_isElement 12 = .ok (.iconst 0, 1) := by decide +kernel
theorem dX9_isElement_13 : decode cX9_isElement 13 = .ok (.ireturn, 1) := by decide +kernel
theorem dX9_isElement_14 : decode cX9_isElement 14 = .ok (.iconst 0, 1) := by decide +kernel
theorem dX9_isElement_15 : decode cX9_isElement 15 = .ok (.istore_n 2, 1) := by decide +kernel
theorem dX9_isElement_16 : decode cX9_isElement 16 = .ok (.iload_n 0, 1) := by decide +kernel
theorem dX9_isElement_17 : decode cX9_isElement 17 = .ok (.istore_n 3, 1) := by decide +kernel
theorem dX9_isElement_18 : decode cX9_isElement 18 = .ok (.iconst 0, 1) := by decide +kernel
theorem dX9_isElement_19 : decode cX9_isElement 19 = .ok (.istore 4, 2) := by decide +kernel
theorem dX9_isElement_21 : decode cX9_isElement 21 = .ok (.iload_n 3, 1) := by decide +kernel
theorem dX9_isElement_22 : decode cX9_isElement 22 = .ok (.ifCond .le 41, 3) := by decide +kernel
theorem dX9_isElement_25 : decode cX9_isElement 25 = .ok (.iload_n 3, 1) := by decide +kernel
theorem dX9_isElement_26 : decode cX9_isElement 26 = .ok (.bipush 10, 2) := by decide +kernel
theorem dX9_isElement_28 : decode cX9_isElement 28 = .ok (.irem, 1) := by decide +kernel
theorem dX9_isElement_29 : decode cX9_isElement 29 = .ok (.istore 5, 2) := by decide +kernel
theorem dX9_isElement_31 : decode cX9_isElement 31 = .ok (.iload 5, 2) := by decide +kernel
theorem dX9_isElement_33 : decode cX9_isElement 33 = .ok (.iconst 1, 1) := by decide +kernel
theorem dX9_isElement_34 : decode cX9_isElement 34 = .ok (.if_icmp .lt 9, 3) := by decide +kernel
theorem dX9_isElement_37 : decode cX9_isElement 37 = .ok (.iload 5, 2) := by decide +kernel
theorem dX9_isElement_39 : decode cX9_isElement 39 = .ok (.iload_n 1, 1) := by decide +kernel
theorem dX9_isElement_40 : decode cX9_isElement 40 = .ok (.if_icmp .le 5, 3) := by decide +kernel
theorem dX9_isElement_43 : decode cX9_isElement 43 = .ok (.iconst 0, 1) := by decide +kernel
theorem dX9_isElement_44 : decode cX9_isElement 44 = .ok (.ireturn, 1) := by decide +kernel
theorem dX9_isElement_45 : decode cX9_isElement 45 = .ok (.iload_n 2, 1) := by decide +kernel
theorem dX9_isElement_46 : decode cX9_isElement 46 = .ok (.iconst 1, 1) := by decide +kernel
theorem dX9_isElement_47 : decode cX9_isElement 47 = .ok (.iload 5, 2) := by decide +kernel
theorem dX9_isElement_49 : decode cX9_isElement 49 = .ok (.ishl, 1) := by decide +kernel
theorem dX9_isElement_50 : decode cX9_isElement 50 = .ok (.ior, 1) := by decide +kernel
theorem dX9_isElement_51 : decode cX9_isElement 51 = .ok (.istore_n 2, 1) := by decide +kernel
theorem dX9_isElement_52 : decode cX9_isElement 52 = .ok (.iinc 4 1, 3) := by decide +kernel
theorem dX9_isElement_55 : decode cX9_isElement 55 = .ok (.iload_n 3, 1) := by decide +kernel
theorem dX9_isElement_56 : decode cX9_isElement 56 = .ok (.bipush 10, 2) := by decide +kernel
theorem dX9_isElement_58 : decode cX9_isElement 58 = .ok (.idiv, 1) := by decide +kernel
theorem dX9_isElement_59 : decode cX9_isElement 59 = .ok (.istore_n 3, 1) := by decide +kernel
theorem dX9_isElement_60 : decode cX9_isElement 60 = .ok (.goto (-39), 3) := by decide +kernel
theorem dX9_isElement_63 : decode cX9_isElement 63 = .ok (.iload 4, 2) := by decide +kernel
theorem dX9_isElement_65 : decode cX9_isElement 65 = .ok (.iload_n 1, 1) := by decide +kernel
theorem dX9_isElement_66 : decode cX9_isElement 66 = .ok (.if_icmp .ne 18, 3) := by decide +kernel
theorem dX9_isElement_69 : decode cX9_isElement 69 = .ok (.iload_n 2, 1) := by decide +kernel
theorem dX9_isElement_70 : decode cX9_isElement 70 = .ok (.iconst 1, 1) := by decide +kernel
theorem dX9_isElement_71 : decode cX9_isElement 71 = .ok (.iload_n 1, 1) := by decide +kernel
theorem dX9_isElement_72 : decode cX9_isElement 72 = .ok (.iconst 1, 1) := by decide +kernel
theorem dX9_isElement_73 : decode cX9_isElement 73 = .ok (.iadd, 1) := by decide +kernel
theorem dX9_isElement_74 : decode cX9_isElement 74 = .ok (.ishl, 1) := by decide +kernel
theorem dX9_isElement_75 : decode cX9_isElement 75 = .ok (.iconst 2, 1) := by decide +kernel
theorem dX9_isElement_76 : decode cX9_isElement 76 = .ok (.isub, 1) := by decide +kernel
theorem dX9_isElement_77 : decode cX9_isElement 77 = .ok (.if_icmp .ne 7, 3) := by decide +kernel
theorem dX9_isElement_80 : decode cX9_isElement 80 = .ok (.iconst 1, 1) := by decide +kernel
theorem dX9_isElement_81 : decode cX9_isElement 81 = .ok (.goto 4, 3) := by decide +kernel
theorem dX9_isElement_84 : decode cX9_isElement 84 = .ok (.iconst 0, 1) := by decide +kernel
theorem dX9_isElement_85 : decode cX9_isElement 85 = .ok (.ireturn, 1) := by decide +kernel
theorem dX9_times_0 : decode cX9_times 0 = .ok (.iconst 0, 1) := by decide +kernel
theorem dX9_times_1 : decode cX9_times 1 = .ok (.istore_n 3, 1) := by decide +kernel
theorem dX9_times_2 : decode cX9_times 2 = .ok (.iconst 1, 1) := by decide +kernel
theorem dX9_times_3 : decode cX9_times 3 = .ok (.istore 4, 2) := by decide +kernel
theorem dX9_times_5 : decode cX9_times 5 = .ok (.iload 4, 2) := by decide +kernel
theorem dX9_times_7 : decode cX9_times 7 = .ok (.iload_n 2, 1) := by decide +kernel
theorem dX9_times_8 : decode cX9_times 8 = .ok (.if_icmp .gt 27, 3) := by decide +kernel
theorem dX9_times_11 : decode cX9_times 11 = .ok (.bipush 10, 2) := by decide +kernel
theorem dX9_times_13 : decode cX9_times 13 = .ok (.iload_n 3, 1) := by decide +kernel
theorem dX9_times_14 : decode cX9_times 14 = .ok (.imul, 1) := by decide +kernel
theorem dX9_times_15 : decode cX9_times 15 = .ok (.iload_n 1, 1) := by decide +kernel
theorem dX9_times_16 : decode cX9_times 16 = .ok (.iload_n 0, 1) := by decide +kernel
theorem dX9_times_17 : decode cX9_times 17 = .ok (.iload 4, 2) := by decide +kernel
theorem dX9_times_19 : decode cX9_times 19 = .ok (.iload_n 2, 1) := by decide +kernel
theorem dX9_times_20 : decode cX9_times 20 = .ok (.invokestatic 50, 3) := by decide +kernel
theorem dX9_times_23 : decode cX9_times 23 = .ok (.iload_n 2, 1) := by decide +kernel
theorem dX9_times_24 : decode cX9_times 24 = .ok (.invokestatic 50, 3) := by decide +kernel
theorem dX9_times_27 : decode cX9_times 27 = .ok (.iadd, 1) := by decide +kernel
theorem dX9_times_28 : decode cX9_times 28 = .ok (.istore_n 3, 1) := by decide +kernel
theorem dX9_times_29 : decode cX9_times 29 = .ok (.iinc 4 1, 3) := by decide +kernel
theorem dX9_times_32 : decode cX9_times 32 = .ok (.goto (-27), 3) := by decide +kernel
theorem dX9_times_35 : decode cX9_times 35 = .ok (.iload_n 3, 1) := by decide +kernel
theorem dX9_times_36 : decode cX9_times 36 = .ok (.ireturn, 1) := by decide +kernel
theorem dX9_inverseOf_0 : decode cX9_inverseOf 0 = .ok (.iconst 0, 1) := by decide +kernel
theorem dX9_inverseOf_1 : decode cX9_inverseOf 1 = .ok (.istore_n 2, 1) := by decide +kernel
theorem dX9_inverseOf_2 : decode cX9_inverseOf 2 = .ok (.iconst 1, 1) := by decide +kernel
theorem dX9_inverseOf_3 : decode cX9_inverseOf 3 = .ok (.istore_n 3, 1) := by decide +kernel
theorem dX9_inverseOf_4 : decode cX9_inverseOf 4 = .ok (.iload_n 3, 1) := by decide +kernel
theorem dX9_inverseOf_5 : decode cX9_inverseOf 5 = .ok (.iload_n 1, 1) := by decide +kernel
theorem dX9_inverseOf_6 : decode cX9_inverseOf 6 = .ok (.if_icmp .gt 43, 3) := by decide +kernel
theorem dX9_inverseOf_9 : decode cX9_inverseOf 9 = .ok (.iconst 1, 1) := by decide +kernel
theorem dX9_inverseOf_10 : decode cX9_inverseOf 10 = .ok (.istore 4, 2) := by decide +kernel
theorem dX9_inverseOf_12 : decode cX9_inverseOf 12 = .ok (.iload 4, 2) := by decide +kernel
theorem dX9_inverseOf_14 : decode cX9_inverseOf 14 = .ok (.iload_n 1, 1) := by decide +kernel
theorem dX9_inverseOf_15 : decode cX9_inverseOf 15 = .ok (.if_icmp .gt 28, 3) := by decide +kernel
theorem dX9_inverseOf_18 : decode cX9_inverseOf 18 = .ok (.iload_n 0, 1) := by decide +kernel
theorem dX9_inverseOf_19 : decode cX9_inverseOf 19 = .ok (.iload 4, 2) := by decide +kernel
theorem dX9_inverseOf_21 : decode cX9_inverseOf 21 = .ok (.iload_n 1, 1) := by decide +kernel
theorem dX9_inverseOf_22 : decode cX9_inverseOf 22 = .ok (.invokestatic 50, 3) := by decide +kernel
theorem dX9_inverseOf_25 : decode cX9_inverseOf 25 = .ok (.iload_n 3, 1) := by decide +kernel
theorem dX9_inverseOf_26 : decode cX9_inverseOf 26 = .ok (.if_icmp .ne 11, 3) := by decide +kernel
theorem dX9_inverseOf_29 : decode cX9_inverseOf 29 = .ok (.bipush 10, 2) := by decide +kernel
theorem dX9_inverseOf_31 : decode cX9_inverseOf 31 = .ok (.iload_n 2, 1) := by decide +kernel
theorem dX9_inverseOf_32 : decode cX9_inverseOf 32 = .ok (.imul, 1) := by decide +kernel
theorem dX9_inverseOf_33 : decode cX9_inverseOf 33 = .ok (.iload 4, 2) := by decide +kernel
theorem dX9_inverseOf_35 : decode cX9_inverseOf 35 = .ok (.iadd, 1) := by decide +kernel
theorem dX9_inverseOf_36 : decode cX9_inverseOf 36 = .ok (.istore_n 2, 1) := by decide +kernel
theorem dX9_inverseOf_37 : decode cX9_inverseOf 37 = .ok (.iinc 4 1, 3) := by decide +kernel
theorem dX9_inverseOf_40 : decode cX9_inverseOf 40 = .ok (.goto (-28), 3) := by decide +kernel
theorem dX9_inverseOf_43 : decode cX9_inverseOf 43 = .ok (.iinc 3 1, 3) := by decide +kernel
theorem dX9_inverseOf_46 : decode cX9_inverseOf 46 = .ok (.goto (-42), 3) := by decide +kernel
theorem dX9_inverseOf_49 : decode cX9_inverseOf 49 = .ok (.iload_n 2, 1) := by decide +kernel
theorem dX9_inverseOf_50 : decode cX9_inverseOf 50 = .ok (.ireturn, 1) := by decide +kernel
theorem dX9_orderOf_0 : decode cX9_orderOf 0 = .ok (.iconst 1, 1) := by decide +kernel
theorem dX9_orderOf_1 : decode cX9_orderOf 1 = .ok (.istore_n 2, 1) := by decide +kernel
theorem dX9_orderOf_2 : decode cX9_orderOf 2 = .ok (.iload_n 0, 1) := by decide +kernel
theorem dX9_orderOf_3 : decode cX9_orderOf 3 = .ok (.istore_n 3, 1) := by decide +kernel
theorem dX9_orderOf_4 : decode cX9_orderOf 4 = .ok (.iload_n 3, 1) := by decide +kernel
theorem dX9_orderOf_5 : decode cX9_orderOf 5 = .ok (.iload_n 1, 1) := by decide +kernel
theorem dX9_orderOf_6 : decode cX9_orderOf 6 = .ok (.invokestatic 54, 3) := by decide +kernel
theorem dX9_orderOf_9 : decode cX9_orderOf 9 = .ok (.if_icmp .eq 16, 3) := by decide +kernel
theorem dX9_orderOf_12 : decode cX9_orderOf 12 = .ok (.iinc 2 1, 3) := by decide +kernel
theorem dX9_orderOf_15 : decode cX9_orderOf 15 = .ok (.iload_n 3, 1) := by decide +kernel
theorem dX9_orderOf_16 : decode cX9_orderOf 16 = .ok (.iload_n 0, 1) := by decide +kernel
theorem dX9_orderOf_17 : decode cX9_orderOf 17 = .ok (.iload_n 1, 1) := by decide +kernel
theorem dX9_orderOf_18 : decode cX9_orderOf 18 = .ok (.invokestatic 58, 3) := by decide +kernel
theorem dX9_orderOf_21 : decode cX9_orderOf 21 = .ok (.istore_n 3, 1) := by decide +kernel
theorem dX9_orderOf_22 : decode cX9_orderOf 22 = .ok (.goto (-18), 3) := by decide +kernel
theorem dX9_orderOf_25 : decode cX9_orderOf 25 = .ok (.iload_n 2, 1) := by decide +kernel
theorem dX9_orderOf_26 : decode cX9_orderOf 26 = .ok (.ireturn, 1) := by decide +kernel
theorem dX9_append_0 : decode cX9_append 0 = .ok (.aload_n 0, 1) := by decide +kernel
theorem dX9_append_1 : decode cX9_append 1 = .ok (.iconst 0, 1) := by decide +kernel
theorem dX9_append_2 : decode cX9_append 2 = .ok (.putfield 46, 3) := by decide +kernel
theorem dX9_append_5 : decode cX9_append 5 = .ok (.aload_n 0, 1) := by decide +kernel
theorem dX9_append_6 : decode cX9_append 6 = .ok (.getfield 61, 3) := by decide +kernel
theorem dX9_append_9 : decode cX9_append 9 = .ok (.bipush 20, 2) := by decide +kernel
theorem dX9_append_11 : decode cX9_append 11 = .ok (.iadd, 1) := by decide +kernel
theorem dX9_append_12 : decode cX9_append 12 = .ok (.sipush 700, 3) := by decide +kernel
theorem dX9_append_15 : decode cX9_append 15 = .ok (.if_icmp .le 5, 3) := by decide +kernel
theorem dX9_append_18 : decode cX9_append 18 = .ok (.iconst (-1), 1) := by decide +kernel
theorem dX9_append_19 : decode cX9_append 19 = .ok (.ireturn, 1) := by decide +kernel
theorem dX9_append_20 : decode cX9_append 20 = .ok (.iconst 0, 1) := by decide +kernel
theorem dX9_append_21 : decode cX9_append 21 = .ok (.istore 6, 2) := by decide +kernel
theorem dX9_append_23 : decode cX9_append 23 = .ok (.iload 6, 2) := by decide +kernel
theorem dX9_append_25 : decode cX9_append 25 = .ok (.bipush 20, 2) := by decide +kernel
theorem dX9_append_27 : decode cX9_append 27 = .ok (.if_icmp .ge 93, 3) := by decide +kernel
theorem dX9_append_30 : decode cX9_append 30 = .ok (.iload 6, 2) := by decide +kernel
theorem dX9_append_32 : decode cX9_append 32 = .ok (.iconst 4, 1) := by decide +kernel
theorem dX9_append_33 : decode cX9_append 33 = .ok (.if_icmp .ge 7, 3) := by decide +kernel
theorem dX9_append_36 : decode cX9_append 36 = .ok (.iload_n 1, 1) := by decide +kernel
theorem dX9_append_37 : decode cX9_append 37 = .ok (.goto 39, 3) := by decide +kernel
theorem dX9_append_40 : decode cX9_append 40 = .ok (.iload 6, 2) := by decide +kernel
theorem dX9_append_42 : decode cX9_append 42 = .ok (.bipush 8, 2) := by decide +kernel
theorem dX9_append_44 : decode cX9_append 44 = .ok (.if_icmp .ge 7, 3) := by decide +kernel
theorem dX9_append_47 : decode cX9_append 47 = .ok (.iload_n 2, 1) := by decide +kernel
theorem dX9_append_48 : decode cX9_append 48 = .ok (.goto 28, 3) := by decide +kernel
theorem dX9_append_51 : decode cX9_append 51 = .ok (.iload 6, 2) := by decide +kernel
theorem dX9_append_53 : decode cX9_append 53 = .ok (.bipush 12, 2) := by decide +kernel
theorem dX9_append_55 : decode cX9_append 55 = .ok (.if_icmp .ge 7, 3) := by decide +kernel
theorem dX9_append_58 : decode cX9_append 58 = .ok (.iload_n 3, 1) := by decide +kernel
theorem dX9_append_59 : decode cX9_append 59 = .ok (.goto 17, 3) := by decide +kernel
theorem dX9_append_62 : decode cX9_append 62 = .ok (.iload 6, 2) := by decide +kernel
theorem dX9_append_64 : decode cX9_append 64 = .ok (.bipush 16, 2) := by decide +kernel
theorem dX9_append_66 : decode cX9_append 66 = .ok (.if_icmp .ge 8, 3) := by decide +kernel
theorem dX9_append_69 : decode cX9_append 69 = .ok (.iload 4, 2) := by decide +kernel
theorem dX9_append_71 : decode cX9_append 71 = .ok (.goto 5, 3) := by decide +kernel
theorem dX9_append_74 : decode cX9_append 74 = .ok (.iload 5, 2) := by decide +kernel
theorem dX9_append_76 : decode cX9_append 76 = .ok (.istore 7, 2) := by decide +kernel
theorem dX9_append_78 : decode cX9_append 78 = .ok (.aload_n 0, 1) := by decide +kernel
theorem dX9_append_79 : decode cX9_append 79 = .ok (.getfield 9, 3) := by decide +kernel
theorem dX9_append_82 : decode cX9_append 82 = .ok (.aload_n 0, 1) := by decide +kernel
theorem dX9_append_83 : decode cX9_append 83 = .ok (.getfield 61, 3) := by decide +kernel
theorem dX9_append_86 : decode cX9_append 86 = .ok (.iload 7, 2) := by decide +kernel
theorem dX9_append_88 : decode cX9_append 88 = .ok (.bipush 24, 2) := by decide +kernel
theorem dX9_append_90 : decode cX9_append 90 = .ok (.bipush 8, 2) := by decide +kernel
theorem dX9_append_92 : decode cX9_append 92 = .ok (.iload 6, 2) := by decide +kernel
theorem dX9_append_94 : decode cX9_append 94 = .ok (.iconst 4, 1) := by decide +kernel
theorem dX9_append_95 : decode cX9_append 95 = .ok (.irem, 1) := by decide +kernel
theorem dX9_append_96 : decode cX9_append 96 = .ok (.imul, 1) := by decide +kernel
theorem dX9_append_97 : decode cX9_append 97 = .ok (.isub, 1) := by decide +kernel
theorem dX9_append_98 : decode cX9_append 98 = .ok (.ishr, 1) := by decide +kernel
theorem dX9_append_99 : decode cX9_append 99 = .ok (.sipush 255, 3) := by decide +kernel
theorem dX9_append_102 : decode cX9_append 102 = .ok (.iand, 1) := by decide +kernel
theorem dX9_append_103 : decode cX9_append 103 = .ok (.iastore, 1) := by decide +kernel
theorem dX9_append_104 : decode cX9_append 104 = .ok (.aload_n 0, 1) := by decide +kernel
theorem dX9_append_105 : decode cX9_append 105 = .ok (.dup, 1) := by decide +kernel
theorem dX9_append_106 : decode cX9_append 106 = .ok (.getfield 61, 3) := by decide +kernel
theorem dX9_append_109 : decode cX9_append 109 = .ok (.iconst 1, 1) := by decide +kernel
theorem dX9_append_110 : decode cX9_append 110 = .ok (.iadd, 1) := by decide +kernel
theorem dX9_append_111 : decode cX9_append 111 = .ok (.putfield 61, 3) := by decide +kernel
theorem dX9_append_114 : decode cX9_append 114 = .ok (.iinc 6 1, 3) := by decide +kernel
theorem dX9_append_117 : decode cX9_append 117 = .ok (.goto (-94), 3) := by decide +kernel
theorem dX9_append_120 : decode cX9_append 120 = .ok (.aload_n 0, 1) := by decide +kernel
theorem dX9_append_121 : decode cX9_append 121 = .ok (.getfield 61, 3) := by decide +kernel
theorem dX9_append_124 : decode cX9_append 124 = .ok (.ireturn, 1) := by decide +kernel
theorem dX9_byteAt_0 : decode cX9_byteAt 0 = .ok (.iload_n 1, 1) := by decide +kernel
theorem dX9_byteAt_1 : decode cX9_byteAt 1 = .ok (.aload_n 0, 1) := by decide +kernel
theorem dX9_byteAt_2 : decode cX9_byteAt 2 = .ok (.getfield 64, 3) := by decide +kernel
theorem dX9_byteAt_5 : decode cX9_byteAt 5 = .ok (.if_icmp .ge 12, 3) := by decide +kernel
theorem dX9_byteAt_8 : decode cX9_byteAt 8 = .ok (.aload_n 0, 1) := by decide +kernel
theorem dX9_byteAt_9 : decode cX9_byteAt 9 = .ok (.getfield 9, 3) := by decide +kernel
theorem dX9_byteAt_12 : decode cX9_byteAt 12 = .ok (.iload_n 1, 1) := by decide +kernel
theorem dX9_byteAt_13 : decode cX9_byteAt 13 = .ok (.iaload, 1) := by decide +kernel
theorem dX9_byteAt_14 : decode cX9_byteAt 14 = .ok (.goto 4, 3) := by decide +kernel
theorem dX9_byteAt_17 : decode cX9_byteAt 17 = .ok (.iconst (-1), 1) := by decide +kernel
theorem dX9_byteAt_18 : decode cX9_byteAt 18 = .ok (.ireturn, 1) := by decide +kernel
theorem dX9_next_0 : decode cX9_next 0 = .ok (.aload_n 0, 1) := by decide +kernel
theorem dX9_next_1 : decode cX9_next 1 = .ok (.aload_n 0, 1) := by decide +kernel
theorem dX9_next_2 : decode cX9_next 2 = .ok (.getfield 67, 3) := by decide +kernel
theorem dX9_next_5 : decode cX9_next 5 = .ok (.invokevirtual 70, 3) := by decide +kernel
theorem dX9_next_8 : decode cX9_next 8 = .ok (.bipush 32, 2) := by decide +kernel
theorem dX9_next_10 : decode cX9_next 10 = .ok (.if_icmp .ne 16, 3) := by decide +kernel
theorem dX9_next_13 : decode cX9_next 13 = .ok (.aload_n 0, 1) := by decide +kernel
theorem dX9_next_14 : decode cX9_next 14 = .ok (.dup, 1) := by decide +kernel
theorem dX9_next_15 : decode cX9_next 15 = .ok (.getfield 67, 3) := by decide +kernel
theorem dX9_next_18 : decode cX9_next 18 = .ok (.iconst 1, 1) := by decide +kernel
theorem dX9_next_19 : decode cX9_next 19 = .ok (.iadd, 1) := by decide +kernel
theorem dX9_next_20 : decode cX9_next 20 = .ok (.putfield 67, 3) := by decide +kernel
theorem dX9_next_23 : decode cX9_next 23 = .ok (.goto (-23), 3) := by decide +kernel
theorem dX9_next_26 : decode cX9_next 26 = .ok (.aload_n 0, 1) := by decide +kernel
theorem dX9_next_27 : decode cX9_next 27 = .ok (.aload_n 0, 1) := by decide +kernel
theorem dX9_next_28 : decode cX9_next 28 = .ok (.getfield 67, 3) := by decide +kernel
theorem dX9_next_31 : decode cX9_next 31 = .ok (.invokevirtual 70, 3) := by decide +kernel
theorem dX9_next_34 : decode cX9_next 34 = .ok (.ireturn, 1) := by decide +kernel
theorem dX9_isGood_0 : decode cX9_isGood 0 = .ok (.aload_n 0, 1) := by decide +kernel
theorem dX9_isGood_1 : decode cX9_isGood 1 = .ok (.getfield 73, 3) := by decide +kernel
theorem dX9_isGood_4 : decode cX9_isGood 4 = .ok (.ifCond .ne 7, 3) := by decide +kernel
theorem dX9_isGood_7 : decode cX9_isGood 7 = .ok (.iconst 1, 1) := by decide +kernel
theorem dX9_isGood_8 : decode cX9_isGood 8 = .ok (.goto 4, 3) := by decide +kernel
theorem dX9_isGood_11 : decode cX9_isGood 11 = .ok (.iconst 0, 1) := by decide +kernel
theorem dX9_isGood_12 : decode cX9_isGood 12 = .ok (.ireturn, 1) := by decide +kernel
theorem dX9_report_0 : decode cX9_report 0 = .ok (.aload_n 0, 1) := by decide +kernel
theorem dX9_report_1 : decode cX9_report 1 = .ok (.getfield 73, 3) := by decide +kernel
theorem dX9_report_4 : decode cX9_report 4 = .ok (.ifCond .eq 4, 3) := by decide +kernel
theorem dX9_report_7 : decode cX9_report 7 = .ok (.return_, 1) := by decide +kernel
theorem dX9_report_8 : decode cX9_report 8 = .ok (.aload_n 0, 1) := by decide +kernel
theorem dX9_report_9 : decode cX9_report 9 = .ok (.iload_n 1, 1) := by decide +kernel
theorem dX9_report_10 : decode cX9_report 10 = .ok (.putfield 73, 3) := by decide +kernel
theorem dX9_report_13 : decode cX9_report 13 = .ok (.aload_n 0, 1) := by decide +kernel
theorem dX9_report_14 : decode cX9_report 14 = .ok (.iload_n 2, 1) := by decide +kernel
theorem dX9_report_15 : decode cX9_report 15 = .ok (.putfield 76, 3) := by decide +kernel
theorem dX9_report_18 : decode cX9_report 18 = .ok (.return_, 1) := by decide +kernel
theorem dX9_isDigit_0 : decode cX9_isDigit 0 = .ok (.iload_n 0, 1) := by decide +kernel
theorem dX9_isDigit_1 : decode cX9_isDigit 1 = .ok (.bipush 48, 2) := by decide +kernel
theorem dX9_isDigit_3 : decode cX9_isDigit 3 = .ok (.bipush 57, 2) := by decide +kernel
theorem dX9_isDigit_5 : decode cX9_isDigit 5 = .ok (.invokestatic 79, 3) := by decide +kernel
theorem dX9_isDigit_8 : decode cX9_isDigit 8 = .ok (.ireturn, 1) := by decide +kernel
theorem dX9_takeWord_0 : decode cX9_takeWord 0 = .ok (.aload_n 0, 1) := by decide +kernel
theorem dX9_takeWord_1 : decode cX9_takeWord 1 = .ok (.invokevirtual 83, 3) := by decide +kernel
theorem dX9_takeWord_4 : decode cX9_takeWord 4 = .ok (.ifCond .ne 5, 3) := by decide +kernel
theorem dX9_takeWord_7 : decode cX9_takeWord 7 = .ok (.iconst 0, 1) := by decide +kernel
theorem dX9_takeWord_8 : decode cX9_takeWord 8 = .ok (.ireturn, 1) := by decide +kernel
theorem dX9_takeWord_9 : decode cX9_takeWord 9 = .ok (.aload_n 0, 1) := by decide +kernel
theorem dX9_takeWord_10 : decode cX9_takeWord 10 = .ok (.invokevirtual 87, 3) := by decide +kernel
theorem dX9_takeWord_13 : decode cX9_takeWord 13 = .ok (.pop, 1) := by decide +kernel
theorem dX9_takeWord_14 : decode cX9_takeWord 14 = .ok (.iconst 0, 1) := by decide +kernel
theorem dX9_takeWord_15 : decode cX9_takeWord 15 = .ok (.istore_n 2, 1) := by decide +kernel
theorem dX9_takeWord_16 : decode cX9_takeWord 16 = .ok (.iload_n 2, 1) := by decide +kernel
theorem dX9_takeWord_17 : decode cX9_takeWord 17 = .ok (.aload_n 1, 1) := by decide +kernel
theorem dX9_takeWord_18 : decode cX9_takeWord 18 = .ok (.invokevirtual 91, 3) := by decide +kernel
theorem dX9_takeWord_21 : decode cX9_takeWord 21 = .ok (.if_icmp .ge 27, 3) := by decide +kernel
theorem dX9_takeWord_24 : decode cX9_takeWord 24 = .ok (.aload_n 0, 1) := by decide +kernel
theorem dX9_takeWord_25 : decode cX9_takeWord 25 = .ok (.aload_n 0, 1) := by decide +kernel
theorem dX9_takeWord_26 : decode cX9_takeWord 26 = .ok (.getfield 67, 3) := by decide +kernel
theorem dX9_takeWord_29 : decode cX9_takeWord 29 = .ok (.iload_n 2, 1) := by decide +kernel
theorem dX9_takeWord_30 : decode cX9_takeWord 30 = .ok (.iadd, 1) := by decide +kernel
theorem dX9_takeWord_31 : decode cX9_takeWord 31 = .ok (.invokevirtual 70, 3) := by decide +kernel
theorem dX9_takeWord_34 : decode cX9_takeWord 34 = .ok (.aload_n 1, 1) := by decide +kernel
theorem dX9_takeWord_35 : decode cX9_takeWord 35 = .ok (.iload_n 2, 1) := by decide +kernel
theorem dX9_takeWord_36 : decode cX9_takeWord 36 = .ok (.invokevirtual 96, 3) := by decide +kernel
theorem dX9_takeWord_39 : decode cX9_takeWord 39 = .ok (.if_icmp .ne 9, 3) := by decide +kernel
theorem dX9_takeWord_42 : decode cX9_takeWord 42 = .ok (.iinc 2 1, 3) := by decide +kernel
theorem dX9_takeWord_45 : decode cX9_takeWord 45 = .ok (.goto (-29), 3) := by decide +kernel
theorem dX9_takeWord_48 : decode cX9_takeWord 48 = .ok (.iload_n 2, 1) := by decide +kernel
theorem dX9_takeWord_49 : decode cX9_takeWord 49 = .ok (.aload_n 1, 1) := by decide +kernel
theorem dX9_takeWord_50 : decode cX9_takeWord 50 = .ok (.invokevirtual 91, 3) := by decide +kernel
theorem dX9_takeWord_53 : decode cX9_takeWord 53 = .ok (.if_icmp .lt 23, 3) := by decide +kernel
theorem dX9_takeWord_56 : decode cX9_takeWord 56 = .ok (.aload_n 0, 1) := by decide +kernel
theorem dX9_takeWord_57 : decode cX9_takeWord 57 = .ok (.aload_n 0, 1) := by decide +kernel
theorem dX9_takeWord_58 : decode cX9_takeWord 58 = .ok (.getfield 67, 3) := by decide +kernel
theorem dX9_takeWord_61 : decode cX9_takeWord 61 = .ok (.iload_n 2, 1) := by decide +kernel
theorem dX9_takeWord_62 : decode cX9_takeWord 62 = .ok (.iadd, 1) := by decide +kernel
theorem dX9_takeWord_63 : decode cX9_takeWord 63 = .ok (.invokevirtual 70, 3) := by decide +kernel
theorem dX9_takeWord_66 : decode cX9_takeWord 66 = .ok (.bipush 97, 2) := by decide +kernel
theorem dX9_takeWord_68 : decode cX9_takeWord 68 = .ok (.bipush 122, 2) := by decide +kernel
theorem dX9_takeWord_70 : decode cX9_takeWord 70 = .ok (.invokestatic 79, 3) := by decide +kernel
theorem dX9_takeWord_73 : decode cX9_takeWord 73 = .ok (.ifCond .eq 5, 3) := by decide +kernel
theorem dX9_takeWord_76 : decode cX9_takeWord 76 = .ok (.iconst 0, 1) := by decide +kernel
theorem dX9_takeWord_77 : decode cX9_takeWord 77 = .ok (.ireturn, 1) := by decide +kernel
theorem dX9_takeWord_78 : decode cX9_takeWord 78 = .ok (.aload_n 0, 1) := by decide +kernel
theorem dX9_takeWord_79 : decode cX9_takeWord 79 = .ok (.dup, 1) := by decide +kernel
theorem dX9_takeWord_80 : decode cX9_takeWord 80 = .ok (.getfield 67, 3) := by decide +kernel
theorem dX9_takeWord_83 : decode cX9_takeWord 83 = .ok (.iload_n 2, 1) := by decide +kernel
theorem dX9_takeWord_84 : decode cX9_takeWord 84 = .ok (.iadd, 1) := by decide +kernel
theorem dX9_takeWord_85 : decode cX9_takeWord 85 = .ok (.putfield 67, 3) := by decide +kernel
theorem dX9_takeWord_88 : decode cX9_takeWord 88 = .ok (.iconst 1, 1) := by decide +kernel
theorem dX9_takeWord_89 : decode cX9_takeWord 89 = .ok (.ireturn, 1) := by decide +kernel
theorem dX9_expect_0 : decode cX9_expect 0 = .ok (.aload_n 0, 1) := by decide +kernel
theorem dX9_expect_1 : decode cX9_expect 1 = .ok (.invokevirtual 83, 3) := by decide +kernel
theorem dX9_expect_4 : decode cX9_expect 4 = .ok (.ifCond .ne 4, 3) := by decide +kernel
theorem dX9_expect_7 : decode cX9_expect 7 = .ok (.return_, 1) := by decide +kernel
theorem dX9_expect_8 : decode cX9_expect 8 = .ok (.aload_n 0, 1) := by decide +kernel
theorem dX9_expect_9 : decode cX9_expect 9 = .ok (.invokevirtual 87, 3) := by decide +kernel
theorem dX9_expect_12 : decode cX9_expect 12 = .ok (.iload_n 1, 1) := by decide +kernel
theorem dX9_expect_13 : decode cX9_expect 13 = .ok (.if_icmp .ne 16, 3) := by decide +kernel
theorem dX9_expect_16 : decode cX9_expect 16 = .ok (.aload_n 0, 1) := by decide +kernel
theorem dX9_expect_17 : decode cX9_expect 17 = .ok (.dup, 1) := by decide +kernel
theorem dX9_expect_18 : decode cX9_expect 18 = .ok (.getfield 67, 3) := by decide +kernel
theorem dX9_expect_21 : decode cX9_expect 21 = .ok (.iconst 1, 1) := by decide +kernel
theorem dX9_expect_22 : decode cX9_expect 22 = .ok (.iadd, 1) := by decide +kernel
theorem dX9_expect_23 : decode cX9_expect 23 = .ok (.putfield 67, 3) := by decide +kernel
theorem dX9_expect_26 : decode cX9_expect 26 = .ok (.goto 13, 3) := by decide +kernel
theorem dX9_expect_29 : decode cX9_expect 29 = .ok (.aload_n 0, 1) := by decide +kernel
theorem dX9_expect_30 : decode cX9_expect 30 = .ok (.bipush (-2), 2) := by decide +kernel
theorem dX9_expect_32 : decode cX9_expect 32 = .ok (.aload_n 0, 1) := by decide +kernel
theorem dX9_expect_33 : decode cX9_expect 33 = .ok (.getfield 67, 3) := by decide +kernel
theorem dX9_expect_36 : decode cX9_expect 36 = .ok (.invokevirtual 100, 3) := by decide +kernel
theorem dX9_expect_39 : decode cX9_expect 39 = .ok (.return_, 1) := by decide +kernel
theorem dX9_number_0 : decode cX9_number 0 = .ok (.aload_n 0, 1) := by decide +kernel
theorem dX9_number_1 : decode cX9_number 1 = .ok (.invokevirtual 83, 3) := by decide +kernel
theorem dX9_number_4 : decode cX9_number 4 = .ok (.ifCond .ne 5, 3) := by decide +kernel
theorem dX9_number_7 : decode cX9_number 7 = .ok (.iconst 0, 1) := by decide +kernel
theorem dX9_number_8 : decode cX9_number 8 = .ok (.ireturn, 1) := by decide +kernel
theorem dX9_number_9 : decode cX9_number 9 = .ok (.aload_n 0, 1) := by decide +kernel
theorem dX9_number_10 : decode cX9_number 10 = .ok (.invokevirtual 87, 3) := by decide +kernel
theorem dX9_number_13 : decode cX9_number 13 = .ok (.invokestatic 104, 3) := by decide +kernel
theorem dX9_number_16 : decode cX9_number 16 = .ok (.ifCond .ne 15, 3) := by decide +kernel
theorem dX9_number_19 : decode cX9_number 19 = .ok (.aload_n 0, 1) := by decide +kernel
theorem dX9_number_20 : decode cX9_number 20 = .ok (.bipush (-2), 2) := by decide +kernel
theorem dX9_number_22 : decode cX9_number 22 = .ok (.aload_n 0, 1) := by decide +kernel
theorem dX9_number_23 : decode cX9_number 23 = .ok (.getfield 67, 3) := by decide +kernel
theorem dX9_number_26 : decode cX9_number 26 = .ok (.invokevirtual 100, 3) := by decide +kernel
theorem dX9_number_29 : decode cX9_number 29 = .ok (.iconst 0, 1) := by decide +kernel
theorem dX9_number_30 : decode cX9_number 30 = .ok (.ireturn, 1) := by decide +kernel
theorem dX9_number_31 : decode cX9_number 31 = .ok (.aload_n 0, 1) := by decide +kernel
theorem dX9_number_32 : decode cX9_number 32 = .ok (.aload_n 0, 1) := by decide +kernel
theorem dX9_number_33 : decode cX9_number 33 = .ok (.getfield 67, 3) := by decide +kernel
theorem dX9_number_36 : decode cX9_number 36 = .ok (.putfield 108, 3) := by decide +kernel
theorem dX9_number_39 : decode cX9_number 39 = .ok (.iconst 0, 1) := by decide +kernel
theorem dX9_number_40 : decode cX9_number 40 = .ok (.istore_n 3, 1) := by decide +kernel
theorem dX9_number_41 : decode cX9_number 41 = .ok (.aload_n 0, 1) := by decide +kernel
theorem dX9_number_42 : decode cX9_number 42 = .ok (.aload_n 0, 1) := by decide +kernel
theorem dX9_number_43 : decode cX9_number 43 = .ok (.getfield 67, 3) := by decide +kernel
theorem dX9_number_46 : decode cX9_number 46 = .ok (.invokevirtual 70, 3) := by decide +kernel
theorem dX9_number_49 : decode cX9_number 49 = .ok (.invokestatic 104, 3) := by decide +kernel
theorem dX9_number_52 : decode cX9_number 52 = .ok (.ifCond .eq 38, 3) := by decide +kernel
theorem dX9_number_55 : decode cX9_number 55 = .ok (.ldc 111, 2) := by decide +kernel
theorem dX9_number_57 : decode cX9_number 57 = .ok (.bipush 10, 2) := by decide +kernel
theorem dX9_number_59 : decode cX9_number 59 = .ok (.iload_n 3, 1) := by decide +kernel
theorem dX9_number_60 : decode cX9_number 60 = .ok (.imul, 1) := by decide +kernel
theorem dX9_number_61 : decode cX9_number 61 = .ok (.aload_n 0, 1) := by decide +kernel
theorem dX9_number_62 : decode cX9_number 62 = .ok (.aload_n 0, 1) := by decide +kernel
theorem dX9_number_63 : decode cX9_number 63 = .ok (.getfield 67, 3) := by decide +kernel
theorem dX9_number_66 : decode cX9_number 66 = .ok (.invokevirtual 70, 3) := by decide +kernel
theorem dX9_number_69 : decode cX9_number 69 = .ok (.iadd, 1) := by decide +kernel
theorem dX9_number_70 : decode cX9_number 70 = .ok (.bipush 48, 2) := by decide +kernel
theorem dX9_number_72 : decode cX9_number 72 = .ok (.isub, 1) := by decide +kernel
theorem dX9_number_73 : decode cX9_number 73 = .ok (.invokestatic 112, 3) := by decide +kernel
theorem dX9_number_76 : decode cX9_number 76 = .ok (.istore_n 3, 1) := by decide +kernel
theorem dX9_number_77 : decode cX9_number 77 = .ok (.aload_n 0, 1) := by decide +kernel
theorem dX9_number_78 : decode cX9_number 78 = .ok (.dup, 1) := by decide +kernel
theorem dX9_number_79 : decode cX9_number 79 = .ok (.getfield 67, 3) := by decide +kernel
theorem dX9_number_82 : decode cX9_number 82 = .ok (.iconst 1, 1) := by decide +kernel
theorem dX9_number_83 : decode cX9_number 83 = .ok (.iadd, 1) := by decide +kernel
theorem dX9_number_84 : decode cX9_number 84 = .ok (.putfield 67, 3) := by decide +kernel
theorem dX9_number_87 : decode cX9_number 87 = .ok (.goto (-46), 3) := by decide +kernel
theorem dX9_number_90 : decode cX9_number 90 = .ok (.iload_n 3, 1) := by decide +kernel
theorem dX9_number_91 : decode cX9_number 91 = .ok (.iload_n 1, 1) := by decide +kernel
theorem dX9_number_92 : decode cX9_number 92 = .ok (.iload_n 2, 1) := by decide +kernel
theorem dX9_number_93 : decode cX9_number 93 = .ok (.invokestatic 79, 3) := by decide +kernel
theorem dX9_number_96 : decode cX9_number 96 = .ok (.ifCond .ne 13, 3) := by decide +kernel
theorem dX9_number_99 : decode cX9_number 99 = .ok (.aload_n 0, 1) := by decide +kernel
theorem dX9_number_100 : decode cX9_number 100 = .ok (.bipush (-3), 2) := by decide +kernel
theorem dX9_number_102 : decode cX9_number 102 = .ok (.aload_n 0, 1) := by decide +kernel
theorem dX9_number_103 : decode cX9_number 103 = .ok (.getfield 108, 3) := by decide +kernel
theorem dX9_number_106 : decode cX9_number 106 = .ok (.invokevirtual 100, 3) := by decide +kernel
theorem dX9_number_109 : decode cX9_number 109 = .ok (.iload_n 3, 1) := by decide +kernel
theorem dX9_number_110 : decode cX9_number 110 = .ok (.ireturn, 1) := by decide +kernel
theorem dX9_emit_0 : decode cX9_emit 0 = .ok (.aload_n 0, 1) := by decide +kernel
theorem dX9_emit_1 : decode cX9_emit 1 = .ok (.invokevirtual 83, 3) := by decide +kernel
theorem dX9_emit_4 : decode cX9_emit 4 = .ok (.ifCond .ne 4, 3) := by decide +kernel
theorem dX9_emit_7 : decode cX9_emit 7 = .ok (.return_, 1) := by decide +kernel
theorem dX9_emit_8 : decode cX9_emit 8 = .ok (.aload_n 0, 1) := by decide +kernel
theorem dX9_emit_9 : decode cX9_emit 9 = .ok (.getfield 20, 3) := by decide +kernel
theorem dX9_emit_12 : decode cX9_emit 12 = .ok (.sipush 178, 3) := by decide +kernel
theorem dX9_emit_15 : decode cX9_emit 15 = .ok (.aload_n 0, 1) := by decide +kernel
theorem dX9_emit_16 : decode cX9_emit 16 = .ok (.getfield 20, 3) := by decide +kernel
theorem dX9_emit_19 : decode cX9_emit 19 = .ok (.bipush 10, 2) := by decide +kernel
theorem dX9_emit_21 : decode cX9_emit 21 = .ok (.iaload, 1) := by decide +kernel
theorem dX9_emit_22 : decode cX9_emit 22 = .ok (.iadd, 1) := by decide +kernel
theorem dX9_emit_23 : decode cX9_emit 23 = .ok (.iload_n 1, 1) := by decide +kernel
theorem dX9_emit_24 : decode cX9_emit 24 = .ok (.iastore, 1) := by decide +kernel
theorem dX9_emit_25 : decode cX9_emit 25 = .ok (.aload_n 0, 1) := by decide +kernel
theorem dX9_emit_26 : decode cX9_emit 26 = .ok (.getfield 20, 3) := by decide +kernel
theorem dX9_emit_29 : decode cX9_emit 29 = .ok (.bipush 10, 2) := by decide +kernel
theorem dX9_emit_31 : decode cX9_emit 31 = .ok (.dup2, 1) := by decide +kernel
theorem dX9_emit_32 : decode cX9_emit 32 = .ok (.iaload, 1) := by decide +kernel
theorem dX9_emit_33 : decode cX9_emit 33 = .ok (.iconst 1, 1) := by decide +kernel
theorem dX9_emit_34 : decode cX9_emit 34 = .ok (.iadd, 1) := by decide +kernel
theorem dX9_emit_35 : decode cX9_emit 35 = .ok (.iastore, 1) := by decide +kernel
theorem dX9_emit_36 : decode cX9_emit 36 = .ok (.return_, 1) := by decide +kernel
theorem dX9_factor_0 : decode cX9_factor 0 = .ok (.aload_n 0, 1) := by decide +kernel
theorem dX9_factor_1 : decode cX9_factor 1 = .ok (.invokevirtual 83, 3) := by decide +kernel
theorem dX9_factor_4 : decode cX9_factor 4 = .ok (.ifCond .ne 4, 3) := by decide +kernel
theorem dX9_factor_7 : decode cX9_factor 7 = .ok (.return_, 1) := by decide +kernel
theorem dX9_factor_8 : decode cX9_factor 8 = .ok (.aload_n 0, 1) := by decide +kernel
theorem dX9_factor_9 : decode cX9_factor 9 = .ok (.invokevirtual 87, 3) := by decide +kernel
theorem dX9_factor_12 : decode cX9_factor 12 = .ok (.istore_n 1, 1) := by decide +kernel
theorem dX9_factor_13 : decode cX9_factor 13 = .ok (.iload_n 1, 1) := by decide +kernel
theorem dX9_factor_14 : decode cX9_factor 14 = .ok (.bipush 40, 2) := by decide +kernel
theorem dX9_factor_16 : decode cX9_factor 16 = .ok (.if_icmp .ne 62, 3) := by decide +kernel
theorem dX9_factor_19 : decode cX9_factor 19 = .ok (.aload_n 0, 1) := by decide +kernel
theorem dX9_factor_20 : decode cX9_factor 20 = .ok (.getfield 116, 3) := by decide +kernel
theorem dX9_factor_23 : decode cX9_factor 23 = .ok (.iconst 4, 1) := by decide +kernel
theorem dX9_factor_24 : decode cX9_factor 24 = .ok (.if_icmp .ne 13, 3) := by decide +kernel
theorem dX9_factor_27 : decode cX9_factor 27 = .ok (.aload_n 0, 1) := by decide +kernel
theorem dX9_factor_28 : decode cX9_factor 28 = .ok (.bipush (-5), 2) := by decide +kernel
theorem dX9_factor_30 : decode cX9_factor 30 = .ok (.aload_n 0, 1) := by decide +kernel
theorem dX9_factor_31 : decode cX9_factor 31 = .ok (.getfield 67, 3) := by decide +kernel
theorem dX9_factor_34 : decode cX9_factor 34 = .ok (.invokevirtual 100, 3) := by decide +kernel
theorem dX9_factor_37 : decode cX9_factor 37 = .ok (.aload_n 0, 1) := by decide +kernel
theorem dX9_factor_38 : decode cX9_factor 38 = .ok (.dup, 1) := by decide +kernel
theorem dX9_factor_39 : decode cX9_factor 39 = .ok (.getfield 67, 3) := by decide +kernel
theorem dX9_factor_42 : decode cX9_factor 42 = .ok (.iconst 1, 1) := by decide +kernel
theorem dX9_factor_43 : decode cX9_factor 43 = .ok (.iadd, 1) := by decide +kernel
theorem dX9_factor_44 : decode cX9_factor 44 = .ok (.putfield 67, 3) := by decide +kernel
theorem dX9_factor_47 : decode cX9_factor 47 = .ok (.aload_n 0, 1) := by decide +kernel
theorem dX9_factor_48 : decode cX9_factor 48 = .ok (.dup, 1) := by decide +kernel
theorem dX9_factor_49 : decode cX9_factor 49 = .ok (.getfield 116, 3) := by decide +kernel
theorem dX9_factor_52 : decode cX9_factor 52 = .ok (.iconst 1, 1) := by decide +kernel
theorem dX9_factor_53 : decode cX9_factor 53 = .ok (.iadd, 1) := by decide +kernel
theorem dX9_factor_54 : decode cX9_factor 54 = .ok (.putfield 116, 3) := by decide +kernel
theorem dX9_factor_57 : decode cX9_factor 57 = .ok (.aload_n 0, 1) := by decide +kernel
theorem dX9_factor_58 : decode cX9_factor 58 = .ok (.invokevirtual 119, 3) := by decide +kernel
theorem dX9_factor_61 : decode cX9_factor 61 = .ok (.aload_n 0, 1) := by decide +kernel
theorem dX9_factor_62 : decode cX9_factor 62 = .ok (.bipush 41, 2) := by decide +kernel
theorem dX9_factor_64 : decode cX9_factor 64 = .ok (.invokevirtual 122, 3) := by decide +kernel
theorem dX9_factor_67 : decode cX9_factor 67 = .ok (.aload_n 0, 1) := by decide +kernel
theorem dX9_factor_68 : decode cX9_factor 68 = .ok (.dup, 1) := by decide +kernel
theorem dX9_factor_69 : decode cX9_factor 69 = .ok (.getfield 116, 3) := by decide +kernel
theorem dX9_factor_72 : decode cX9_factor 72 = .ok (.iconst 1, 1) := by decide +kernel
theorem dX9_factor_73 : decode cX9_factor 73 = .ok (.isub, 1) := by decide +kernel
theorem dX9_factor_74 : decode cX9_factor 74 = .ok (.putfield 116, 3) := by decide +kernel
theorem dX9_factor_77 : decode cX9_factor 77 = .ok (.return_, 1) := by decide +kernel
theorem dX9_factor_78 : decode cX9_factor 78 = .ok (.iload_n 1, 1) := by decide +kernel
theorem dX9_factor_79 : decode cX9_factor 79 = .ok (.invokestatic 104, 3) := by decide +kernel
theorem dX9_factor_82 : decode cX9_factor 82 = .ok (.ifCond .eq 7, 3) := by decide +kernel
theorem dX9_factor_85 : decode cX9_factor 85 = .ok (.iconst (-1), 1) := by decide +kernel
theorem dX9_factor_86 : decode cX9_factor 86 = .ok (.goto 56, 3) := by decide +kernel
theorem dX9_factor_89 : decode cX9_factor 89 = .ok (.aload_n 0, 1) := by decide +kernel
theorem dX9_factor_90 : decode cX9_factor 90 = .ok (.ldc 126, 2) := by decide +kernel
theorem dX9_factor_92 : decode cX9_factor 92 = .ok (.invokevirtual 128, 3) := by decide +kernel
theorem dX9_factor_95 : decode cX9_factor 95 = .ok (.ifCond .eq 7, 3) := by decide +kernel
theorem dX9_factor_98 : decode cX9_factor 98 = .ok (.iconst 0, 1) := by decide +kernel
theorem dX9_factor_99 : decode cX9_factor 99 = .ok (.goto 43, 3) := by decide +kernel
theorem dX9_factor_102 : decode cX9_factor 102 = .ok (.aload_n 0, 1) := by decide +kernel
theorem dX9_factor_103 : decode cX9_factor 103 = .ok (.ldc 132, 2) := by decide +kernel
theorem dX9_factor_105 : decode cX9_factor 105 = .ok (.invokevirtual 128, 3) := by decide +kernel
theorem dX9_factor_108 : decode cX9_factor 108 = .ok (.ifCond .eq 7, 3) := by decide +kernel
theorem dX9_factor_111 : decode cX9_factor 111 = .ok (.iconst 1, 1) := by decide +kernel
theorem dX9_factor_112 : decode cX9_factor 112 = .ok (.goto 30, 3) := by decide +kernel
theorem dX9_factor_115 : decode cX9_factor 115 = .ok (.aload_n 0, 1) := by decide +kernel
theorem dX9_factor_116 : decode cX9_factor 116 = .ok (.ldc 134, 2) := by decide +kernel
theorem dX9_factor_118 : decode cX9_factor 118 = .ok (.invokevirtual 128, 3) := by decide +kernel
theorem dX9_factor_121 : decode cX9_factor 121 = .ok (.ifCond .eq 7, 3) := by decide +kernel
theorem dX9_factor_124 : decode cX9_factor 124 = .ok (.iconst 2, 1) := by decide +kernel
theorem dX9_factor_125 : decode cX9_factor 125 = .ok (.goto 17, 3) := by decide +kernel
theorem dX9_factor_128 : decode cX9_factor 128 = .ok (.aload_n 0, 1) := by decide +kernel
theorem dX9_factor_129 : decode cX9_factor 129 = .ok (.ldc 136, 2) := by decide +kernel
theorem dX9_factor_131 : decode cX9_factor 131 = .ok (.invokevirtual 128, 3) := by decide +kernel
theorem dX9_factor_134 : decode cX9_factor 134 = .ok (.ifCond .eq 7, 3) := by decide +kernel
theorem dX9_factor_137 : decode cX9_factor 137 = .ok (.iconst 3, 1) := by decide +kernel
theorem dX9_factor_138 : decode cX9_factor 138 = .ok (.goto 4, 3) := by decide +kernel
theorem dX9_factor_141 : decode cX9_factor 141 = .ok (.iconst (-1), 1) := by decide +kernel
theorem dX9_factor_142 : decode cX9_factor 142 = .ok (.istore_n 2, 1) := by decide +kernel
theorem dX9_factor_143 : decode cX9_factor 143 = .ok (.iload_n 2, 1) := by decide +kernel
theorem dX9_factor_144 : decode cX9_factor 144 = .ok (.ifCond .ge 14, 3) := by decide +kernel
theorem dX9_factor_147 : decode cX9_factor 147 = .ok (.aload_n 0, 1) := by decide +kernel
theorem dX9_factor_148 : decode cX9_factor 148 = .ok (.iconst 0, 1) := by decide +kernel
theorem dX9_factor_149 : decode cX9_factor 149 = .ok (.sipush 9999, 3) := by decide +kernel
theorem dX9_factor_152 : decode cX9_factor 152 = .ok (.invokevirtual 138, 3) := by decide +kernel
theorem dX9_factor_155 : decode cX9_factor 155 = .ok (.goto 4, 3) := by decide +kernel
theorem dX9_factor_158 : decode cX9_factor 158 = .ok (.iload_n 2, 1) := by decide +kernel
theorem dX9_factor_159 : decode cX9_factor 159 = .ok (.istore_n 3, 1) := by decide +kernel
theorem dX9_factor_160 : decode cX9_factor 160 = .ok (.aload_n 0, 1) := by decide +kernel
theorem dX9_factor_161 : decode cX9_factor 161 = .ok (.iload_n 2, 1) := by decide +kernel
theorem dX9_factor_162 : decode cX9_factor 162 = .ok (.ifCond .ge 7, 3) := by decide +kernel
theorem dX9_factor_165 : decode cX9_factor 165 = .ok (.iconst 0, 1) := by decide +kernel
theorem dX9_factor_166 : decode cX9_factor 166 = .ok (.goto 4, 3) := by decide +kernel
theorem dX9_factor_169 : decode cX9_factor 169 = .ok (.iconst 1, 1) := by decide +kernel
theorem dX9_factor_170 : decode cX9_factor 170 = .ok (.invokevirtual 141, 3) := by decide +kernel
theorem dX9_factor_173 : decode cX9_factor 173 = .ok (.aload_n 0, 1) := by decide +kernel
theorem dX9_factor_174 : decode cX9_factor 174 = .ok (.iload_n 3, 1) := by decide +kernel
theorem dX9_factor_175 : decode cX9_factor 175 = .ok (.invokevirtual 141, 3) := by decide +kernel
theorem dX9_factor_178 : decode cX9_factor 178 = .ok (.return_, 1) := by decide +kernel
theorem dX9_term_0 : decode cX9_term 0 = .ok (.aload_n 0, 1) := by decide +kernel
theorem dX9_term_1 : decode cX9_term 1 = .ok (.invokevirtual 144, 3) := by decide +kernel
theorem dX9_term_4 : decode cX9_term 4 = .ok (.aload_n 0, 1) := by decide +kernel
theorem dX9_term_5 : decode cX9_term 5 = .ok (.invokevirtual 83, 3) := by decide +kernel
theorem dX9_term_8 : decode cX9_term 8 = .ok (.ifCond .eq 66, 3) := by decide +kernel
theorem dX9_term_11 : decode cX9_term 11 = .ok (.aload_n 0, 1) := by decide +kernel
theorem dX9_term_12 : decode cX9_term 12 = .ok (.invokevirtual 87, 3) := by decide +kernel
theorem dX9_term_15 : decode cX9_term 15 = .ok (.bipush 42, 2) := by decide +kernel
theorem dX9_term_17 : decode cX9_term 17 = .ok (.if_icmp .eq 12, 3) := by decide +kernel
theorem dX9_term_20 : decode cX9_term 20 = .ok (.aload_n 0, 1) := by decide +kernel
theorem dX9_term_21 : decode cX9_term 21 = .ok (.invokevirtual 87, 3) := by decide +kernel
theorem dX9_term_24 : decode cX9_term 24 = .ok (.bipush 47, 2) := by decide +kernel
theorem dX9_term_26 : decode cX9_term 26 = .ok (.if_icmp .ne 48, 3) := by decide +kernel
theorem dX9_term_29 : decode cX9_term 29 = .ok (.aload_n 0, 1) := by decide +kernel
theorem dX9_term_30 : decode cX9_term 30 = .ok (.invokevirtual 87, 3) := by decide +kernel
theorem dX9_term_33 : decode cX9_term 33 = .ok (.bipush 42, 2) := by decide +kernel
theorem dX9_term_35 : decode cX9_term 35 = .ok (.if_icmp .ne 7, 3) := by decide +kernel
theorem dX9_term_38 : decode cX9_term 38 = .ok (.iconst 1, 1) := by decide +kernel
theorem dX9_term_39 : decode cX9_term 39 = .ok (.goto 4, 3) := by decide +kernel
theorem dX9_term_42 : decode cX9_term 42 = .ok (.iconst 0, 1) := by decide +kernel
theorem dX9_term_43 : decode cX9_term 43 = .ok (.istore_n 1, 1) := by decide +kernel
theorem dX9_term_44 : decode cX9_term 44 = .ok (.aload_n 0, 1) := by decide +kernel
theorem dX9_term_45 : decode cX9_term 45 = .ok (.dup, 1) := by decide +kernel
theorem dX9_term_46 : decode cX9_term 46 = .ok (.getfield 67, 3) := by decide +kernel
theorem dX9_term_49 : decode cX9_term 49 = .ok (.iconst 1, 1) := by decide +kernel
theorem dX9_term_50 : decode cX9_term 50 = .ok (.iadd, 1) := by decide +kernel
theorem dX9_term_51 : decode cX9_term 51 = .ok (.putfield 67, 3) := by decide +kernel
theorem dX9_term_54 : decode cX9_term 54 = .ok (.aload_n 0, 1) := by decide +kernel
theorem dX9_term_55 : decode cX9_term 55 = .ok (.invokevirtual 144, 3) := by decide +kernel
theorem dX9_term_58 : decode cX9_term 58 = .ok (.aload_n 0, 1) := by decide +kernel
theorem dX9_term_59 : decode cX9_term 59 = .ok (.iload_n 1, 1) := by decide +kernel
theorem dX9_term_60 : decode cX9_term 60 = .ok (.ifCond .eq 7, 3) := by decide +kernel
theorem dX9_term_63 : decode cX9_term 63 = .ok (.iconst 4, 1) := by decide +kernel
theorem dX9_term_64 : decode cX9_term 64 = .ok (.goto 4, 3) := by decide +kernel
theorem dX9_term_67 : decode cX9_term 67 = .ok (.iconst 5, 1) := by decide +kernel
theorem dX9_term_68 : decode cX9_term 68 = .ok (.invokevirtual 141, 3) := by decide +kernel
theorem dX9_term_71 : decode cX9_term 71 = .ok (.goto (-67), 3) := by decide +kernel
theorem dX9_term_74 : decode cX9_term 74 = .ok (.return_, 1) := by decide +kernel
theorem dX9_sum_0 : decode cX9_sum 0 = .ok (.aload_n 0, 1) := by decide +kernel
theorem dX9_sum_1 : decode cX9_sum 1 = .ok (.invokevirtual 147, 3) := by decide +kernel
theorem dX9_sum_4 : decode cX9_sum 4 = .ok (.aload_n 0, 1) := by decide +kernel
theorem dX9_sum_5 : decode cX9_sum 5 = .ok (.invokevirtual 83, 3) := by decide +kernel
theorem dX9_sum_8 : decode cX9_sum 8 = .ok (.ifCond .eq 66, 3) := by decide +kernel
theorem dX9_sum_11 : decode cX9_sum 11 = .ok (.aload_n 0, 1) := by decide +kernel
theorem dX9_sum_12 : decode cX9_sum 12 = .ok (.invokevirtual 87, 3) := by decide +kernel
theorem dX9_sum_15 : decode cX9_sum 15 = .ok (.bipush 43, 2) := by decide +kernel
theorem dX9_sum_17 : decode cX9_sum 17 = .ok (.if_icmp .eq 12, 3) := by decide +kernel
theorem dX9_sum_20 : decode cX9_sum 20 = .ok (.aload_n 0, 1) := by decide +kernel
theorem dX9_sum_21 : decode cX9_sum 21 = .ok (.invokevirtual 87, 3) := by decide +kernel
theorem dX9_sum_24 : decode cX9_sum 24 = .ok (.bipush 45, 2) := by decide +kernel
theorem dX9_sum_26 : decode cX9_sum 26 = .ok (.if_icmp .ne 48, 3) := by decide +kernel
theorem dX9_sum_29 : decode cX9_sum 29 = .ok (.aload_n 0, 1) := by decide +kernel
theorem dX9_sum_30 : decode cX9_sum 30 = .ok (.invokevirtual 87, 3) := by decide +kernel
theorem dX9_sum_33 : decode cX9_sum 33 = .ok (.bipush 43, 2) := by decide +kernel
theorem dX9_sum_35 : decode cX9_sum 35 = .ok (.if_icmp .ne 7, 3) := by decide +kernel
theorem dX9_sum_38 : decode cX9_sum 38 = .ok (.iconst 1, 1) := by decide +kernel
theorem dX9_sum_39 : decode cX9_sum 39 = .ok (.goto 4, 3) := by decide +kernel
theorem dX9_sum_42 : decode cX9_sum 42 = .ok (.iconst 0, 1) := by decide +kernel
theorem dX9_sum_43 : decode cX9_sum 43 = .ok (.istore_n 1, 1) := by decide +kernel
theorem dX9_sum_44 : decode cX9_sum 44 = .ok (.aload_n 0, 1) := by decide +kernel
theorem dX9_sum_45 : decode cX9_sum 45 = .ok (.dup, 1) := by decide +kernel
theorem dX9_sum_46 : decode cX9_sum 46 = .ok (.getfield 67, 3) := by decide +kernel
theorem dX9_sum_49 : decode cX9_sum 49 = .ok (.iconst 1, 1) := by decide +kernel
theorem dX9_sum_50 : decode cX9_sum 50 = .ok (.iadd, 1) := by decide +kernel
theorem dX9_sum_51 : decode cX9_sum 51 = .ok (.putfield 67, 3) := by decide +kernel
theorem dX9_sum_54 : decode cX9_sum 54 = .ok (.aload_n 0, 1) := by decide +kernel
theorem dX9_sum_55 : decode cX9_sum 55 = .ok (.invokevirtual 147, 3) := by decide +kernel
theorem dX9_sum_58 : decode cX9_sum 58 = .ok (.aload_n 0, 1) := by decide +kernel
theorem dX9_sum_59 : decode cX9_sum 59 = .ok (.iload_n 1, 1) := by decide +kernel
theorem dX9_sum_60 : decode cX9_sum 60 = .ok (.ifCond .eq 7, 3) := by decide +kernel
theorem dX9_sum_63 : decode cX9_sum 63 = .ok (.iconst 2, 1) := by decide +kernel
theorem dX9_sum_64 : decode cX9_sum 64 = .ok (.goto 4, 3) := by decide +kernel
theorem dX9_sum_67 : decode cX9_sum 67 = .ok (.iconst 3, 1) := by decide +kernel
theorem dX9_sum_68 : decode cX9_sum 68 = .ok (.invokevirtual 141, 3) := by decide +kernel
theorem dX9_sum_71 : decode cX9_sum 71 = .ok (.goto (-67), 3) := by decide +kernel
theorem dX9_sum_74 : decode cX9_sum 74 = .ok (.return_, 1) := by decide +kernel
theorem dX9_once_0 : decode cX9_once 0 = .ok (.aload_n 0, 1) := by decide +kernel
theorem dX9_once_1 : decode cX9_once 1 = .ok (.getfield 150, 3) := by decide +kernel
theorem dX9_once_4 : decode cX9_once 4 = .ok (.iload_n 1, 1) := by decide +kernel
theorem dX9_once_5 : decode cX9_once 5 = .ok (.ishr, 1) := by decide +kernel
theorem dX9_once_6 : decode cX9_once 6 = .ok (.iconst 1, 1) := by decide +kernel
theorem dX9_once_7 : decode cX9_once 7 = .ok (.iand, 1) := by decide +kernel
theorem dX9_once_8 : decode cX9_once 8 = .ok (.iconst 1, 1) := by decide +kernel
theorem dX9_once_9 : decode cX9_once 9 = .ok (.if_icmp .ne 10, 3) := by decide +kernel
theorem dX9_once_12 : decode cX9_once 12 = .ok (.aload_n 0, 1) := by decide +kernel
theorem dX9_once_13 : decode cX9_once 13 = .ok (.bipush (-2), 2) := by decide +kernel
theorem dX9_once_15 : decode cX9_once 15 = .ok (.iload_n 2, 1) := by decide +kernel
theorem dX9_once_16 : decode cX9_once 16 = .ok (.invokevirtual 100, 3) := by decide +kernel
theorem dX9_once_19 : decode cX9_once 19 = .ok (.aload_n 0, 1) := by decide +kernel
theorem dX9_once_20 : decode cX9_once 20 = .ok (.dup, 1) := by decide +kernel
theorem dX9_once_21 : decode cX9_once 21 = .ok (.getfield 150, 3) := by decide +kernel
theorem dX9_once_24 : decode cX9_once 24 = .ok (.iconst 1, 1) := by decide +kernel
theorem dX9_once_25 : decode cX9_once 25 = .ok (.iload_n 1, 1) := by decide +kernel
theorem dX9_once_26 : decode cX9_once 26 = .ok (.ishl, 1) := by decide +kernel
theorem dX9_once_27 : decode cX9_once 27 = .ok (.ior, 1) := by decide +kernel
theorem dX9_once_28 : decode cX9_once 28 = .ok (.putfield 150, 3) := by decide +kernel
theorem dX9_once_31 : decode cX9_once 31 = .ok (.return_, 1) := by decide +kernel
theorem dX9_readElement_0 : decode cX9_readElement 0 = .ok (.aload_n 0, 1) := by decide +kernel
theorem dX9_readElement_1 : decode cX9_readElement 1 = .ok (.iconst 0, 1) := by decide +kernel
theorem dX9_readElement_2 : decode cX9_readElement 2 = .ok (.ldc 49, 2) := by decide +kernel
theorem dX9_readElement_4 : decode cX9_readElement 4 = .ok (.invokevirtual 138, 3) := by decide +kernel
theorem dX9_readElement_7 : decode cX9_readElement 7 = .ok (.istore_n 1, 1) := by decide +kernel
theorem dX9_readElement_8 : decode cX9_readElement 8 = .ok (.aload_n 0, 1) := by decide +kernel
theorem dX9_readElement_9 : decode cX9_readElement 9 = .ok (.invokevirtual 83, 3) := by decide +kernel
theorem dX9_readElement_12 : decode cX9_readElement 12 = .ok (.ifCond .eq 26, 3) := by decide +kernel
theorem dX9_readElement_15 : decode cX9_readElement 15 = .ok (.iload_n 1, 1) := by decide +kernel
theorem dX9_readElement_16 : decode cX9_readElement 16 = .ok (.aload_n 0, 1) := by decide +kernel
theorem dX9_readElement_17 : decode cX9_readElement 17 = .ok (.getfield 20, 3) := by decide +kernel
theorem dX9_readElement_20 : decode cX9_readElement 20 = .ok (.iconst 0, 1) := by decide +kernel
theorem dX9_readElement_21 : decode cX9_readElement 21 = .ok (.iaload, 1) := by decide +kernel
theorem dX9_readElement_22 : decode cX9_readElement 22 = .ok (.invokestatic 153, 3) := by decide +kernel
theorem dX9_readElement_25 : decode cX9_readElement 25 = .ok (.ifCond .ne 13, 3) := by decide +kernel
theorem dX9_readElement_28 : decode cX9_readElement 28 = .ok (.aload_n 0, 1) := by decide +kernel
theorem dX9_readElement_29 : decode cX9_readElement 29 = .ok (.bipush (-3), 2) := by decide +kernel
theorem dX9_readElement_31 : decode cX9_readElement 31 = .ok (.aload_n 0, 1) := by decide +kernel
theorem dX9_readElement_32 : decode cX9_readElement 32 = .ok (.getfield 108, 3) := by decide +kernel
theorem dX9_readElement_35 : decode cX9_readElement 35 = .ok (.invokevirtual 100, 3) := by decide +kernel
theorem dX9_readElement_38 : decode cX9_readElement 38 = .ok (.iload_n 1, 1) := by decide +kernel
theorem dX9_readElement_39 : decode cX9_readElement 39 = .ok (.ireturn, 1) := by decide +kernel
theorem dX9_readPlayer_0 : decode cX9_readPlayer 0 = .ok (.aload_n 0, 1) := by decide +kernel
theorem dX9_readPlayer_1 : decode cX9_readPlayer 1 = .ok (.getfield 20, 3) := by decide +kernel
theorem dX9_readPlayer_4 : decode cX9_readPlayer 4 = .ok (.iconst 1, 1) := by decide +kernel
theorem dX9_readPlayer_5 : decode cX9_readPlayer 5 = .ok (.iaload, 1) := by decide +kernel
theorem dX9_readPlayer_6 : decode cX9_readPlayer 6 = .ok (.iconst 5, 1) := by decide +kernel
theorem dX9_readPlayer_7 : decode cX9_readPlayer 7 = .ok (.if_icmp .ne 10, 3) := by decide +kernel
theorem dX9_readPlayer_10 : decode cX9_readPlayer 10 = .ok (.aload_n 0, 1) := by decide +kernel
theorem dX9_readPlayer_11 : decode cX9_readPlayer 11 = .ok (.bipush (-4), 2) := by decide +kernel
theorem dX9_readPlayer_13 : decode cX9_readPlayer 13 = .ok (.iload_n 1, 1) := by decide +kernel
theorem dX9_readPlayer_14 : decode cX9_readPlayer 14 = .ok (.invokevirtual 100, 3) := by decide +kernel
theorem dX9_readPlayer_17 : decode cX9_readPlayer 17 = .ok (.aload_n 0, 1) := by decide +kernel
theorem dX9_readPlayer_18 : decode cX9_readPlayer 18 = .ok (.iconst 0, 1) := by decide +kernel
theorem dX9_readPlayer_19 : decode cX9_readPlayer 19 = .ok (.ldc 157, 2) := by decide +kernel
theorem dX9_readPlayer_21 : decode cX9_readPlayer 21 = .ok (.invokevirtual 138, 3) := by decide +kernel
theorem dX9_readPlayer_24 : decode cX9_readPlayer 24 = .ok (.istore_n 2, 1) := by decide +kernel
theorem dX9_readPlayer_25 : decode cX9_readPlayer 25 = .ok (.aload_n 0, 1) := by decide +kernel
theorem dX9_readPlayer_26 : decode cX9_readPlayer 26 = .ok (.invokevirtual 83, 3) := by decide +kernel
theorem dX9_readPlayer_29 : decode cX9_readPlayer 29 = .ok (.ifCond .ne 4, 3) := by decide +kernel
theorem dX9_readPlayer_32 : decode cX9_readPlayer 32 = .ok (.return_, 1) := by decide +kernel
theorem dX9_readPlayer_33 : decode cX9_readPlayer 33 = .ok (.aload_n 0, 1) := by decide +kernel
theorem dX9_readPlayer_34 : decode cX9_readPlayer 34 = .ok (.getfield 20, 3) := by decide +kernel
theorem dX9_readPlayer_37 : decode cX9_readPlayer 37 = .ok (.bipush 11, 2) := by decide +kernel
theorem dX9_readPlayer_39 : decode cX9_readPlayer 39 = .ok (.bipush 19, 2) := by decide +kernel
theorem dX9_readPlayer_41 : decode cX9_readPlayer 41 = .ok (.aload_n 0, 1) := by decide +kernel
theorem dX9_readPlayer_42 : decode cX9_readPlayer 42 = .ok (.getfield 20, 3) := by decide +kernel
theorem dX9_readPlayer_45 : decode cX9_readPlayer 45 = .ok (.iconst 1, 1) := by decide +kernel
theorem dX9_readPlayer_46 : decode cX9_readPlayer 46 = .ok (.iaload, 1) := by decide +kernel
theorem dX9_readPlayer_47 : decode cX9_readPlayer 47 = .ok (.imul, 1) := by decide +kernel
theorem dX9_readPlayer_48 : decode cX9_readPlayer 48 = .ok (.iadd, 1) := by decide +kernel
theorem dX9_readPlayer_49 : decode cX9_readPlayer 49 = .ok (.iconst 0, 1) := by decide +kernel
theorem dX9_readPlayer_50 : decode cX9_readPlayer 50 = .ok (.iadd, 1) := by decide +kernel
theorem dX9_readPlayer_51 : decode cX9_readPlayer 51 = .ok (.iload_n 2, 1) := by decide +kernel
theorem dX9_readPlayer_52 : decode cX9_readPlayer 52 = .ok (.iastore, 1) := by decide +kernel
theorem dX9_readPlayer_53 : decode cX9_readPlayer 53 = .ok (.aload_n 0, 1) := by decide +kernel
theorem dX9_readPlayer_54 : decode cX9_readPlayer 54 = .ok (.getfield 20, 3) := by decide +kernel
theorem dX9_readPlayer_57 : decode cX9_readPlayer 57 = .ok (.iconst 1, 1) := by decide +kernel
theorem dX9_readPlayer_58 : decode cX9_readPlayer 58 = .ok (.dup2, 1) := by decide +kernel
theorem dX9_readPlayer_59 : decode cX9_readPlayer 59 = .ok (.iaload, 1) := by decide +kernel
theorem dX9_readPlayer_60 : decode cX9_readPlayer 60 = .ok (.iconst 1, 1) := by decide +kernel
theorem dX9_readPlayer_61 : decode cX9_readPlayer 61 = .ok (.iadd, 1) := by decide +kernel
theorem dX9_readPlayer_62 : decode cX9_readPlayer 62 = .ok (.iastore, 1) := by decide +kernel
theorem dX9_readPlayer_63 : decode cX9_readPlayer 63 = .ok (.return_, 1) := by decide +kernel
theorem dX9_readCard_0 : decode cX9_readCard 0 = .ok (.aload_n 0, 1) := by decide +kernel
theorem dX9_readCard_1 : decode cX9_readCard 1 = .ok (.iconst 0, 1) := by decide +kernel
theorem dX9_readCard_2 : decode cX9_readCard 2 = .ok (.aload_n 0, 1) := by decide +kernel
theorem dX9_readCard_3 : decode cX9_readCard 3 = .ok (.getfield 20, 3) := by decide +kernel
theorem dX9_readCard_6 : decode cX9_readCard 6 = .ok (.iconst 1, 1) := by decide +kernel
theorem dX9_readCard_7 : decode cX9_readCard 7 = .ok (.iaload, 1) := by decide +kernel
theorem dX9_readCard_8 : decode cX9_readCard 8 = .ok (.iconst 1, 1) := by decide +kernel
theorem dX9_readCard_9 : decode cX9_readCard 9 = .ok (.isub, 1) := by decide +kernel
theorem dX9_readCard_10 : decode cX9_readCard 10 = .ok (.invokevirtual 138, 3) := by decide +kernel
theorem dX9_readCard_13 : decode cX9_readCard 13 = .ok (.istore_n 1, 1) := by decide +kernel
theorem dX9_readCard_14 : decode cX9_readCard 14 = .ok (.aload_n 0, 1) := by decide +kernel
theorem dX9_readCard_15 : decode cX9_readCard 15 = .ok (.invokevirtual 83, 3) := by decide +kernel
theorem dX9_readCard_18 : decode cX9_readCard 18 = .ok (.ifCond .eq 32, 3) := by decide +kernel
theorem dX9_readCard_21 : decode cX9_readCard 21 = .ok (.aload_n 0, 1) := by decide +kernel
theorem dX9_readCard_22 : decode cX9_readCard 22 = .ok (.getfield 20, 3) := by decide +kernel
theorem dX9_readCard_25 : decode cX9_readCard 25 = .ok (.bipush 11, 2) := by decide +kernel
theorem dX9_readCard_27 : decode cX9_readCard 27 = .ok (.bipush 19, 2) := by decide +kernel
theorem dX9_readCard_29 : decode cX9_readCard 29 = .ok (.iload_n 1, 1) := by decide +kernel
theorem dX9_readCard_30 : decode cX9_readCard 30 = .ok (.imul, 1) := by decide +kernel
theorem dX9_readCard_31 : decode cX9_readCard 31 = .ok (.iadd, 1) := by decide +kernel
theorem dX9_readCard_32 : decode cX9_readCard 32 = .ok (.iconst 1, 1) := by decide +kernel
theorem dX9_readCard_33 : decode cX9_readCard 33 = .ok (.iadd, 1) := by decide +kernel
theorem dX9_readCard_34 : decode cX9_readCard 34 = .ok (.iaload, 1) := by decide +kernel
theorem dX9_readCard_35 : decode cX9_readCard 35 = .ok (.bipush 8, 2) := by decide +kernel
theorem dX9_readCard_37 : decode cX9_readCard 37 = .ok (.if_icmp .ne 13, 3) := by decide +kernel
theorem dX9_readCard_40 : decode cX9_readCard 40 = .ok (.aload_n 0, 1) := by decide +kernel
theorem dX9_readCard_41 : decode cX9_readCard 41 = .ok (.bipush (-4), 2) := by decide +kernel
theorem dX9_readCard_43 : decode cX9_readCard 43 = .ok (.aload_n 0, 1) := by decide +kernel
theorem dX9_readCard_44 : decode cX9_readCard 44 = .ok (.getfield 108, 3) := by decide +kernel
theorem dX9_readCard_47 : decode cX9_readCard 47 = .ok (.invokevirtual 100, 3) := by decide +kernel
theorem dX9_readCard_50 : decode cX9_readCard 50 = .ok (.aload_n 0, 1) := by decide +kernel
theorem dX9_readCard_51 : decode cX9_readCard 51 = .ok (.invokevirtual 158, 3) := by decide +kernel
theorem dX9_readCard_54 : decode cX9_readCard 54 = .ok (.istore_n 2, 1) := by decide +kernel
theorem dX9_readCard_55 : decode cX9_readCard 55 = .ok (.aload_n 0, 1) := by decide +kernel
theorem dX9_readCard_56 : decode cX9_readCard 56 = .ok (.iconst 1, 1) := by decide +kernel
theorem dX9_readCard_57 : decode cX9_readCard 57 = .ok (.sipush 999, 3) := by decide +kernel
theorem dX9_readCard_60 : decode cX9_readCard 60 = .ok (.invokevirtual 138, 3) := by decide +kernel
theorem dX9_readCard_63 : decode cX9_readCard 63 = .ok (.istore_n 3, 1) := by decide +kernel
theorem dX9_readCard_64 : decode cX9_readCard 64 = .ok (.aload_n 0, 1) := by decide +kernel
theorem dX9_readCard_65 : decode cX9_readCard 65 = .ok (.invokevirtual 83, 3) := by decide +kernel
theorem dX9_readCard_68 : decode cX9_readCard 68 = .ok (.ifCond .eq 13, 3) := by decide +kernel
theorem dX9_readCard_71 : decode cX9_readCard 71 = .ok (.aload_n 0, 1) := by decide +kernel
theorem dX9_readCard_72 : decode cX9_readCard 72 = .ok (.getfield 20, 3) := by decide +kernel
theorem dX9_readCard_75 : decode cX9_readCard 75 = .ok (.iload_n 1, 1) := by decide +kernel
theorem dX9_readCard_76 : decode cX9_readCard 76 = .ok (.iload_n 2, 1) := by decide +kernel
theorem dX9_readCard_77 : decode cX9_readCard 77 = .ok (.iload_n 3, 1) := by decide +kernel
theorem dX9_readCard_78 : decode cX9_readCard 78 = .ok (.invokestatic 161, 3) := by decide +kernel
theorem dX9_readCard_81 : decode cX9_readCard 81 = .ok (.return_, 1) := by decide +kernel
theorem dX9_putCard_0 : decode cX9_putCard 0 = .ok (.bipush 11, 2) := by decide +kernel
theorem dX9_putCard_2 : decode cX9_putCard 2 = .ok (.bipush 19, 2) := by decide +kernel
theorem dX9_putCard_4 : decode cX9_putCard 4 = .ok (.iload_n 1, 1) := by decide +kernel
theorem dX9_putCard_5 : decode cX9_putCard 5 = .ok (.imul, 1) := by decide +kernel
theorem dX9_putCard_6 : decode cX9_putCard 6 = .ok (.iadd, 1) := by decide +kernel
theorem dX9_putCard_7 : decode cX9_putCard 7 = .ok (.istore 4, 2) := by decide +kernel
theorem dX9_putCard_9 : decode cX9_putCard 9 = .ok (.iload 4, 2) := by decide +kernel
theorem dX9_putCard_11 : decode cX9_putCard 11 = .ok (.iconst 3, 1) := by decide +kernel
theorem dX9_putCard_12 : decode cX9_putCard 12 = .ok (.iadd, 1) := by decide +kernel
theorem dX9_putCard_13 : decode cX9_putCard 13 = .ok (.iconst 2, 1) := by decide +kernel
theorem dX9_putCard_14 : decode cX9_putCard 14 = .ok (.aload_n 0, 1) := by decide +kernel
theorem dX9_putCard_15 : decode cX9_putCard 15 = .ok (.iload 4, 2) := by decide +kernel
theorem dX9_putCard_17 : decode cX9_putCard 17 = .ok (.iconst 1, 1) := by decide +kernel
theorem dX9_putCard_18 : decode cX9_putCard 18 = .ok (.iadd, 1) := by decide +kernel
theorem dX9_putCard_19 : decode cX9_putCard 19 = .ok (.iaload, 1) := by decide +kernel
theorem dX9_putCard_20 : decode cX9_putCard 20 = .ok (.imul, 1) := by decide +kernel
theorem dX9_putCard_21 : decode cX9_putCard 21 = .ok (.iadd, 1) := by decide +kernel
theorem dX9_putCard_22 : decode cX9_putCard 22 = .ok (.istore 5, 2) := by decide +kernel
theorem dX9_putCard_24 : decode cX9_putCard 24 = .ok (.aload_n 0, 1) := by decide +kernel
theorem dX9_putCard_25 : decode cX9_putCard 25 = .ok (.iload 5, 2) := by decide +kernel
theorem dX9_putCard_27 : decode cX9_putCard 27 = .ok (.iload_n 2, 1) := by decide +kernel
theorem dX9_putCard_28 : decode cX9_putCard 28 = .ok (.iastore, 1) := by decide +kernel
theorem dX9_putCard_29 : decode cX9_putCard 29 = .ok (.aload_n 0, 1) := by decide +kernel
theorem dX9_putCard_30 : decode cX9_putCard 30 = .ok (.iload 5, 2) := by decide +kernel
theorem dX9_putCard_32 : decode cX9_putCard 32 = .ok (.iconst 1, 1) := by decide +kernel
theorem dX9_putCard_33 : decode cX9_putCard 33 = .ok (.iadd, 1) := by decide +kernel
theorem dX9_putCard_34 : decode cX9_putCard 34 = .ok (.iload_n 3, 1) := by decide +kernel
theorem dX9_putCard_35 : decode cX9_putCard 35 = .ok (.iastore, 1) := by decide +kernel
theorem dX9_putCard_36 : decode cX9_putCard 36 = .ok (.aload_n 0, 1) := by decide +kernel
theorem dX9_putCard_37 : decode cX9_putCard 37 = .ok (.iload 4, 2) := by decide +kernel
theorem dX9_putCard_39 : decode cX9_putCard 39 = .ok (.iconst 1, 1) := by decide +kernel
theorem dX9_putCard_40 : decode cX9_putCard 40 = .ok (.iadd, 1) := by decide +kernel
theorem dX9_putCard_41 : decode cX9_putCard 41 = .ok (.dup2, 1) := by decide +kernel
theorem dX9_putCard_42 : decode cX9_putCard 42 = .ok (.iaload, 1) := by decide +kernel
theorem dX9_putCard_43 : decode cX9_putCard 43 = .ok (.iconst 1, 1) := by decide +kernel
theorem dX9_putCard_44 : decode cX9_putCard 44 = .ok (.iadd, 1) := by decide +kernel
theorem dX9_putCard_45 : decode cX9_putCard 45 = .ok (.iastore, 1) := by decide +kernel
theorem dX9_putCard_46 : decode cX9_putCard 46 = .ok (.return_, 1) := by decide +kernel
theorem dX9_readLot_0 : decode cX9_readLot 0 = .ok (.aload_n 0, 1) := by decide +kernel
theorem dX9_readLot_1 : decode cX9_readLot 1 = .ok (.getfield 20, 3) := by decide +kernel
theorem dX9_readLot_4 : decode cX9_readLot 4 = .ok (.iconst 2, 1) := by decide +kernel
theorem dX9_readLot_5 : decode cX9_readLot 5 = .ok (.iaload, 1) := by decide +kernel
theorem dX9_readLot_6 : decode cX9_readLot 6 = .ok (.bipush 12, 2) := by decide +kernel
theorem dX9_readLot_8 : decode cX9_readLot 8 = .ok (.if_icmp .ne 10, 3) := by decide +kernel
theorem dX9_readLot_11 : decode cX9_readLot 11 = .ok (.aload_n 0, 1) := by decide +kernel
theorem dX9_readLot_12 : decode cX9_readLot 12 = .ok (.bipush (-4), 2) := by decide +kernel
theorem dX9_readLot_14 : decode cX9_readLot 14 = .ok (.iload_n 1, 1) := by decide +kernel
theorem dX9_readLot_15 : decode cX9_readLot 15 = .ok (.invokevirtual 100, 3) := by decide +kernel
theorem dX9_readLot_18 : decode cX9_readLot 18 = .ok (.aload_n 0, 1) := by decide +kernel
theorem dX9_readLot_19 : decode cX9_readLot 19 = .ok (.iconst 1, 1) := by decide +kernel
theorem dX9_readLot_20 : decode cX9_readLot 20 = .ok (.sipush 9999, 3) := by decide +kernel
theorem dX9_readLot_23 : decode cX9_readLot 23 = .ok (.invokevirtual 138, 3) := by decide +kernel
theorem dX9_readLot_26 : decode cX9_readLot 26 = .ok (.istore_n 2, 1) := by decide +kernel
theorem dX9_readLot_27 : decode cX9_readLot 27 = .ok (.aload_n 0, 1) := by decide +kernel
theorem dX9_readLot_28 : decode cX9_readLot 28 = .ok (.invokevirtual 83, 3) := by decide +kernel
theorem dX9_readLot_31 : decode cX9_readLot 31 = .ok (.ifCond .ne 4, 3) := by decide +kernel
theorem dX9_readLot_34 : decode cX9_readLot 34 = .ok (.return_, 1) := by decide +kernel
theorem dX9_readLot_35 : decode cX9_readLot 35 = .ok (.aload_n 0, 1) := by decide +kernel
theorem dX9_readLot_36 : decode cX9_readLot 36 = .ok (.getfield 20, 3) := by decide +kernel
theorem dX9_readLot_39 : decode cX9_readLot 39 = .ok (.bipush 106, 2) := by decide +kernel
theorem dX9_readLot_41 : decode cX9_readLot 41 = .ok (.aload_n 0, 1) := by decide +kernel
theorem dX9_readLot_42 : decode cX9_readLot 42 = .ok (.getfield 20, 3) := by decide +kernel
theorem dX9_readLot_45 : decode cX9_readLot 45 = .ok (.iconst 2, 1) := by decide +kernel
theorem dX9_readLot_46 : decode cX9_readLot 46 = .ok (.iaload, 1) := by decide +kernel
theorem dX9_readLot_47 : decode cX9_readLot 47 = .ok (.iadd, 1) := by decide +kernel
theorem dX9_readLot_48 : decode cX9_readLot 48 = .ok (.iload_n 2, 1) := by decide +kernel
theorem dX9_readLot_49 : decode cX9_readLot 49 = .ok (.iastore, 1) := by decide +kernel
theorem dX9_readLot_50 : decode cX9_readLot 50 = .ok (.aload_n 0, 1) := by decide +kernel
theorem dX9_readLot_51 : decode cX9_readLot 51 = .ok (.getfield 20, 3) := by decide +kernel
theorem dX9_readLot_54 : decode cX9_readLot 54 = .ok (.iconst 2, 1) := by decide +kernel
theorem dX9_readLot_55 : decode cX9_readLot 55 = .ok (.dup2, 1) := by decide +kernel
theorem dX9_readLot_56 : decode cX9_readLot 56 = .ok (.iaload, 1) := by decide +kernel
theorem dX9_readLot_57 : decode cX9_readLot 57 = .ok (.iconst 1, 1) := by decide +kernel
theorem dX9_readLot_58 : decode cX9_readLot 58 = .ok (.iadd, 1) := by decide +kernel
theorem dX9_readLot_59 : decode cX9_readLot 59 = .ok (.iastore, 1) := by decide +kernel
theorem dX9_readLot_60 : decode cX9_readLot 60 = .ok (.return_, 1) := by decide +kernel
theorem dX9_statement_0 : decode cX9_statement 0 = .ok (.aload_n 0, 1) := by decide +kernel
theorem dX9_statement_1 : decode cX9_statement 1 = .ok (.invokevirtual 87, 3) := by decide +kernel
theorem dX9_statement_4 : decode cX9_statement 4 = .ok (.pop, 1) := by decide +kernel
theorem dX9_statement_5 : decode cX9_statement 5 = .ok (.aload_n 0, 1) := by decide +kernel
theorem dX9_statement_6 : decode cX9_statement 6 = .ok (.getfield 67, 3) := by decide +kernel
theorem dX9_statement_9 : decode cX9_statement 9 = .ok (.istore_n 1, 1) := by decide +kernel
theorem dX9_statement_10 : decode cX9_statement 10 = .ok (.aload_n 0, 1) := by decide +kernel
theorem dX9_statement_11 : decode cX9_statement 11 = .ok (.ldc 165, 2) := by decide +kernel
theorem dX9_statement_13 : decode cX9_statement 13 = .ok (.invokevirtual 128, 3) := by decide +kernel
theorem dX9_statement_16 : decode cX9_statement 16 = .ok (.ifCond .eq 11, 3) := by decide +kernel
theorem dX9_statement_19 : decode cX9_statement 19 = .ok (.aload_n 0, 1) := by decide +kernel
theorem dX9_statement_20 : decode cX9_statement 20 = .ok (.iload_n 1, 1) := by decide +kernel
theorem dX9_statement_21 : decode cX9_statement 21 = .ok (.invokevirtual 167, 3) := by decide +kernel
theorem dX9_statement_24 : decode cX9_statement 24 = .ok (.goto 73, 3) := by decide +kernel
theorem dX9_statement_27 : decode cX9_statement 27 = .ok (.aload_n 0, 1) := by decide +kernel
theorem dX9_statement_28 : decode cX9_statement 28 = .ok (.ldc 170, 2) := by decide +kernel
theorem dX9_statement_30 : decode cX9_statement 30 = .ok (.invokevirtual 128, 3) := by decide +kernel
theorem dX9_statement_33 : decode cX9_statement 33 = .ok (.ifCond .eq 10, 3) := by decide +kernel
theorem dX9_statement_36 : decode cX9_statement 36 = .ok (.aload_n 0, 1) := by decide +kernel
theorem dX9_statement_37 : decode cX9_statement 37 = .ok (.invokevirtual 172, 3) := by decide +kernel
theorem dX9_statement_40 : decode cX9_statement 40 = .ok (.goto 57, 3) := by decide +kernel
theorem dX9_statement_43 : decode cX9_statement 43 = .ok (.aload_n 0, 1) := by decide +kernel
theorem dX9_statement_44 : decode cX9_statement 44 = .ok (.ldc 175, 2) := by decide +kernel
theorem dX9_statement_46 : decode cX9_statement 46 = .ok (.invokevirtual 128, 3) := by decide +kernel
theorem dX9_statement_49 : decode cX9_statement 49 = .ok (.ifCond .eq 11, 3) := by decide +kernel
theorem dX9_statement_52 : decode cX9_statement 52 = .ok (.aload_n 0, 1) := by decide +kernel
theorem dX9_statement_53 : decode cX9_statement 53 = .ok (.iload_n 1, 1) := by decide +kernel
theorem dX9_statement_54 : decode cX9_statement 54 = .ok (.invokevirtual 177, 3) := by decide +kernel
theorem dX9_statement_57 : decode cX9_statement 57 = .ok (.goto 40, 3) := by decide +kernel
theorem dX9_statement_60 : decode cX9_statement 60 = .ok (.aload_n 0, 1) := by decide +kernel
theorem dX9_statement_61 : decode cX9_statement 61 = .ok (.ldc 180, 2) := by decide +kernel
theorem dX9_statement_63 : decode cX9_statement 63 = .ok (.invokevirtual 128, 3) := by decide +kernel
theorem dX9_statement_66 : decode cX9_statement 66 = .ok (.ifCond .eq 24, 3) := by decide +kernel
theorem dX9_statement_69 : decode cX9_statement 69 = .ok (.aload_n 0, 1) := by decide +kernel
theorem dX9_statement_70 : decode cX9_statement 70 = .ok (.iconst 0, 1) := by decide +kernel
theorem dX9_statement_71 : decode cX9_statement 71 = .ok (.iload_n 1, 1) := by decide +kernel
theorem dX9_statement_72 : decode cX9_statement 72 = .ok (.invokevirtual 182, 3) := by decide +kernel
theorem dX9_statement_75 : decode cX9_statement 75 = .ok (.aload_n 0, 1) := by decide +kernel
theorem dX9_statement_76 : decode cX9_statement 76 = .ok (.getfield 20, 3) := by decide +kernel
theorem dX9_statement_79 : decode cX9_statement 79 = .ok (.bipush 9, 2) := by decide +kernel
theorem dX9_statement_81 : decode cX9_statement 81 = .ok (.iconst 1, 1) := by decide +kernel
theorem dX9_statement_82 : decode cX9_statement 82 = .ok (.iastore, 1) := by decide +kernel
theorem dX9_statement_83 : decode cX9_statement 83 = .ok (.aload_n 0, 1) := by decide +kernel
theorem dX9_statement_84 : decode cX9_statement 84 = .ok (.invokevirtual 119, 3) := by decide +kernel
theorem dX9_statement_87 : decode cX9_statement 87 = .ok (.goto 10, 3) := by decide +kernel
theorem dX9_statement_90 : decode cX9_statement 90 = .ok (.aload_n 0, 1) := by decide +kernel
theorem dX9_statement_91 : decode cX9_statement 91 = .ok (.bipush (-2), 2) := by decide +kernel
theorem dX9_statement_93 : decode cX9_statement 93 = .ok (.iload_n 1, 1) := by decide +kernel
theorem dX9_statement_94 : decode cX9_statement 94 = .ok (.invokevirtual 100, 3) := by decide +kernel
theorem dX9_statement_97 : decode cX9_statement 97 = .ok (.aload_n 0, 1) := by decide +kernel
theorem dX9_statement_98 : decode cX9_statement 98 = .ok (.bipush 59, 2) := by decide +kernel
theorem dX9_statement_100 : decode cX9_statement 100 = .ok (.invokevirtual 122, 3) := by decide +kernel
theorem dX9_statement_103 : decode cX9_statement 103 = .ok (.return_, 1) := by decide +kernel
theorem dX9_load_0 : decode cX9_load 0 = .ok (.aload_n 0, 1) := by decide +kernel
theorem dX9_load_1 : decode cX9_load 1 = .ok (.iconst 0, 1) := by decide +kernel
theorem dX9_load_2 : decode cX9_load 2 = .ok (.putfield 46, 3) := by decide +kernel
theorem dX9_load_5 : decode cX9_load 5 = .ok (.aload_n 0, 1) := by decide +kernel
theorem dX9_load_6 : decode cX9_load 6 = .ok (.iload_n 1, 1) := by decide +kernel
theorem dX9_load_7 : decode cX9_load 7 = .ok (.iconst 0, 1) := by decide +kernel
theorem dX9_load_8 : decode cX9_load 8 = .ok (.aload_n 0, 1) := by decide +kernel
theorem dX9_load_9 : decode cX9_load 9 = .ok (.getfield 61, 3) := by decide +kernel
theorem dX9_load_12 : decode cX9_load 12 = .ok (.invokestatic 79, 3) := by decide +kernel
theorem dX9_load_15 : decode cX9_load 15 = .ok (.ifCond .ne 7, 3) := by decide +kernel
theorem dX9_load_18 : decode cX9_load 18 = .ok (.iconst 1, 1) := by decide +kernel
theorem dX9_load_19 : decode cX9_load 19 = .ok (.goto 4, 3) := by decide +kernel
theorem dX9_load_22 : decode cX9_load 22 = .ok (.iconst 0, 1) := by decide +kernel
theorem dX9_load_23 : decode cX9_load 23 = .ok (.iconst 1, 1) := by decide +kernel
theorem dX9_load_24 : decode cX9_load 24 = .ok (.invokevirtual 185, 3) := by decide +kernel
theorem dX9_load_27 : decode cX9_load 27 = .ok (.ifCond .eq 5, 3) := by decide +kernel
theorem dX9_load_30 : decode cX9_load 30 = .ok (.iconst 0, 1) := by decide +kernel
theorem dX9_load_31 : decode cX9_load 31 = .ok (.ireturn, 1) := by decide +kernel
theorem dX9_load_32 : decode cX9_load 32 = .ok (.aload_n 0, 1) := by decide +kernel
theorem dX9_load_33 : decode cX9_load 33 = .ok (.iconst 0, 1) := by decide +kernel
theorem dX9_load_34 : decode cX9_load 34 = .ok (.putfield 61, 3) := by decide +kernel
theorem dX9_load_37 : decode cX9_load 37 = .ok (.aload_n 0, 1) := by decide +kernel
theorem dX9_load_38 : decode cX9_load 38 = .ok (.iload_n 1, 1) := by decide +kernel
theorem dX9_load_39 : decode cX9_load 39 = .ok (.putfield 64, 3) := by decide +kernel
theorem dX9_load_42 : decode cX9_load 42 = .ok (.aload_n 0, 1) := by decide +kernel
theorem dX9_load_43 : decode cX9_load 43 = .ok (.iconst 0, 1) := by decide +kernel
theorem dX9_load_44 : decode cX9_load 44 = .ok (.putfield 67, 3) := by decide +kernel
theorem dX9_load_47 : decode cX9_load 47 = .ok (.aload_n 0, 1) := by decide +kernel
theorem dX9_load_48 : decode cX9_load 48 = .ok (.iconst 0, 1) := by decide +kernel
theorem dX9_load_49 : decode cX9_load 49 = .ok (.putfield 73, 3) := by decide +kernel
theorem dX9_load_52 : decode cX9_load 52 = .ok (.aload_n 0, 1) := by decide +kernel
theorem dX9_load_53 : decode cX9_load 53 = .ok (.iconst (-1), 1) := by decide +kernel
theorem dX9_load_54 : decode cX9_load 54 = .ok (.putfield 76, 3) := by decide +kernel
theorem dX9_load_57 : decode cX9_load 57 = .ok (.aload_n 0, 1) := by decide +kernel
theorem dX9_load_58 : decode cX9_load 58 = .ok (.iconst 0, 1) := by decide +kernel
theorem dX9_load_59 : decode cX9_load 59 = .ok (.putfield 116, 3) := by decide +kernel
theorem dX9_load_62 : decode cX9_load 62 = .ok (.aload_n 0, 1) := by decide +kernel
theorem dX9_load_63 : decode cX9_load 63 = .ok (.iconst 0, 1) := by decide +kernel
theorem dX9_load_64 : decode cX9_load 64 = .ok (.putfield 150, 3) := by decide +kernel
theorem dX9_load_67 : decode cX9_load 67 = .ok (.iconst 0, 1) := by decide +kernel
theorem dX9_load_68 : decode cX9_load 68 = .ok (.istore_n 2, 1) := by decide +kernel
theorem dX9_load_69 : decode cX9_load 69 = .ok (.iload_n 2, 1) := by decide +kernel
theorem dX9_load_70 : decode cX9_load 70 = .ok (.sipush 1378, 3) := by decide +kernel
theorem dX9_load_73 : decode cX9_load 73 = .ok (.if_icmp .ge 16, 3) := by decide +kernel
theorem dX9_load_76 : decode cX9_load 76 = .ok (.aload_n 0, 1) := by decide +kernel
theorem dX9_load_77 : decode cX9_load 77 = .ok (.getfield 20, 3) := by decide +kernel
theorem dX9_load_80 : decode cX9_load 80 = .ok (.iload_n 2, 1) := by decide +kernel
theorem dX9_load_81 : decode cX9_load 81 = .ok (.iconst 0, 1) := by decide +kernel
theorem dX9_load_82 : decode cX9_load 82 = .ok (.iastore, 1) := by decide +kernel
theorem dX9_load_83 : decode cX9_load 83 = .ok (.iinc 2 1, 3) := by decide +kernel
theorem dX9_load_86 : decode cX9_load 86 = .ok (.goto (-17), 3) := by decide +kernel
theorem dX9_load_89 : decode cX9_load 89 = .ok (.aload_n 0, 1) := by decide +kernel
theorem dX9_load_90 : decode cX9_load 90 = .ok (.ldc 189, 2) := by decide +kernel
theorem dX9_load_92 : decode cX9_load 92 = .ok (.invokevirtual 128, 3) := by decide +kernel
theorem dX9_load_95 : decode cX9_load 95 = .ok (.ifCond .ne 13, 3) := by decide +kernel
theorem dX9_load_98 : decode cX9_load 98 = .ok (.aload_n 0, 1) := by decide +kernel
theorem dX9_load_99 : decode cX9_load 99 = .ok (.bipush (-2), 2) := by decide +kernel
theorem dX9_load_101 : decode cX9_load 101 = .ok (.aload_n 0, 1) := by decide +kernel
theorem dX9_load_102 : decode cX9_load 102 = .ok (.getfield 67, 3) := by decide +kernel
theorem dX9_load_105 : decode cX9_load 105 = .ok (.invokevirtual 100, 3) := by decide +kernel
theorem dX9_load_108 : decode cX9_load 108 = .ok (.aload_n 0, 1) := by decide +kernel
theorem dX9_load_109 : decode cX9_load 109 = .ok (.getfield 20, 3) := by decide +kernel
theorem dX9_load_112 : decode cX9_load 112 = .ok (.iconst 0, 1) := by decide +kernel
theorem dX9_load_113 : decode cX9_load 113 = .ok (.aload_n 0, 1) := by decide +kernel
theorem dX9_load_114 : decode cX9_load 114 = .ok (.iconst 2, 1) := by decide +kernel
theorem dX9_load_115 : decode cX9_load 115 = .ok (.iconst 5, 1) := by decide +kernel
theorem dX9_load_116 : decode cX9_load 116 = .ok (.invokevirtual 138, 3) := by decide +kernel
theorem dX9_load_119 : decode cX9_load 119 = .ok (.iastore, 1) := by decide +kernel
theorem dX9_load_120 : decode cX9_load 120 = .ok (.aload_n 0, 1) := by decide +kernel
theorem dX9_load_121 : decode cX9_load 121 = .ok (.bipush 59, 2) := by decide +kernel
theorem dX9_load_123 : decode cX9_load 123 = .ok (.invokevirtual 122, 3) := by decide +kernel
theorem dX9_load_126 : decode cX9_load 126 = .ok (.aload_n 0, 1) := by decide +kernel
theorem dX9_load_127 : decode cX9_load 127 = .ok (.invokevirtual 83, 3) := by decide +kernel
theorem dX9_load_130 : decode cX9_load 130 = .ok (.ifCond .eq 18, 3) := by decide +kernel
theorem dX9_load_133 : decode cX9_load 133 = .ok (.aload_n 0, 1) := by decide +kernel
theorem dX9_load_134 : decode cX9_load 134 = .ok (.invokevirtual 87, 3) := by decide +kernel
theorem dX9_load_137 : decode cX9_load 137 = .ok (.iconst (-1), 1) := by decide +kernel
theorem dX9_load_138 : decode cX9_load 138 = .ok (.if_icmp .eq 10, 3) := by decide +kernel
theorem dX9_load_141 : decode cX9_load 141 = .ok (.aload_n 0, 1) := by decide +kernel
theorem dX9_load_142 : decode cX9_load 142 = .ok (.invokevirtual 191, 3) := by decide +kernel
theorem dX9_load_145 : decode cX9_load 145 = .ok (.goto (-19), 3) := by decide +kernel
theorem dX9_load_148 : decode cX9_load 148 = .ok (.aload_n 0, 1) := by decide +kernel
theorem dX9_load_149 : decode cX9_load 149 = .ok (.aload_n 0, 1) := by decide +kernel
theorem dX9_load_150 : decode cX9_load 150 = .ok (.getfield 76, 3) := by decide +kernel
theorem dX9_load_153 : decode cX9_load 153 = .ok (.putfield 13, 3) := by decide +kernel
theorem dX9_load_156 : decode cX9_load 156 = .ok (.aload_n 0, 1) := by decide +kernel
theorem dX9_load_157 : decode cX9_load 157 = .ok (.invokevirtual 83, 3) := by decide +kernel
theorem dX9_load_160 : decode cX9_load 160 = .ok (.ifCond .ne 8, 3) := by decide +kernel
theorem dX9_load_163 : decode cX9_load 163 = .ok (.aload_n 0, 1) := by decide +kernel
theorem dX9_load_164 : decode cX9_load 164 = .ok (.getfield 73, 3) := by decide +kernel
theorem dX9_load_167 : decode cX9_load 167 = .ok (.ireturn, 1) := by decide +kernel
theorem dX9_load_168 : decode cX9_load 168 = .ok (.aload_n 0, 1) := by decide +kernel
theorem dX9_load_169 : decode cX9_load 169 = .ok (.invokevirtual 194, 3) := by decide +kernel
theorem dX9_load_172 : decode cX9_load 172 = .ok (.aload_n 0, 1) := by decide +kernel
theorem dX9_load_173 : decode cX9_load 173 = .ok (.getfield 20, 3) := by decide +kernel
theorem dX9_load_176 : decode cX9_load 176 = .ok (.aload_n 0, 1) := by decide +kernel
theorem dX9_load_177 : decode cX9_load 177 = .ok (.getfield 17, 3) := by decide +kernel
theorem dX9_load_180 : decode cX9_load 180 = .ok (.invokestatic 197, 3) := by decide +kernel
theorem dX9_load_183 : decode cX9_load 183 = .ok (.aload_n 0, 1) := by decide +kernel
theorem dX9_load_184 : decode cX9_load 184 = .ok (.getfield 17, 3) := by decide +kernel
theorem dX9_load_187 : decode cX9_load 187 = .ok (.iconst 1, 1) := by decide +kernel
theorem dX9_load_188 : decode cX9_load 188 = .ok (.iaload, 1) := by decide +kernel
theorem dX9_load_189 : decode cX9_load 189 = .ok (.ireturn, 1) := by decide +kernel
theorem dX9_errorOffset_0 : decode cX9_errorOffset 0 = .ok (.aload_n 0, 1) := by decide +kernel
theorem dX9_errorOffset_1 : decode cX9_errorOffset 1 = .ok (.iconst 0, 1) := by decide +kernel
theorem dX9_errorOffset_2 : decode cX9_errorOffset 2 = .ok (.putfield 46, 3) := by decide +kernel
theorem dX9_errorOffset_5 : decode cX9_errorOffset 5 = .ok (.aload_n 0, 1) := by decide +kernel
theorem dX9_errorOffset_6 : decode cX9_errorOffset 6 = .ok (.getfield 13, 3) := by decide +kernel
theorem dX9_errorOffset_9 : decode cX9_errorOffset 9 = .ok (.ireturn, 1) := by decide +kernel
theorem dX9_at_0 : decode cX9_at 0 = .ok (.bipush 11, 2) := by decide +kernel
theorem dX9_at_2 : decode cX9_at 2 = .ok (.bipush 19, 2) := by decide +kernel
theorem dX9_at_4 : decode cX9_at 4 = .ok (.iload_n 0, 1) := by decide +kernel
theorem dX9_at_5 : decode cX9_at 5 = .ok (.imul, 1) := by decide +kernel
theorem dX9_at_6 : decode cX9_at 6 = .ok (.iadd, 1) := by decide +kernel
theorem dX9_at_7 : decode cX9_at 7 = .ok (.ireturn, 1) := by decide +kernel
theorem dX9_cardsOf_0 : decode cX9_cardsOf 0 = .ok (.aload_n 0, 1) := by decide +kernel
theorem dX9_cardsOf_1 : decode cX9_cardsOf 1 = .ok (.getfield 17, 3) := by decide +kernel
theorem dX9_cardsOf_4 : decode cX9_cardsOf 4 = .ok (.iload_n 1, 1) := by decide +kernel
theorem dX9_cardsOf_5 : decode cX9_cardsOf 5 = .ok (.invokestatic 201, 3) := by decide +kernel
theorem dX9_cardsOf_8 : decode cX9_cardsOf 8 = .ok (.iconst 1, 1) := by decide +kernel
theorem dX9_cardsOf_9 : decode cX9_cardsOf 9 = .ok (.iadd, 1) := by decide +kernel
theorem dX9_cardsOf_10 : decode cX9_cardsOf 10 = .ok (.iaload, 1) := by decide +kernel
theorem dX9_cardsOf_11 : decode cX9_cardsOf 11 = .ok (.ireturn, 1) := by decide +kernel
theorem dX9_elementOf_0 : decode cX9_elementOf 0 = .ok (.aload_n 0, 1) := by decide +kernel
theorem dX9_elementOf_1 : decode cX9_elementOf 1 = .ok (.getfield 17, 3) := by decide +kernel
theorem dX9_elementOf_4 : decode cX9_elementOf 4 = .ok (.iload_n 1, 1) := by decide +kernel
theorem dX9_elementOf_5 : decode cX9_elementOf 5 = .ok (.invokestatic 201, 3) := by decide +kernel
theorem dX9_elementOf_8 : decode cX9_elementOf 8 = .ok (.iconst 3, 1) := by decide +kernel
theorem dX9_elementOf_9 : decode cX9_elementOf 9 = .ok (.iadd, 1) := by decide +kernel
theorem dX9_elementOf_10 : decode cX9_elementOf 10 = .ok (.iconst 2, 1) := by decide +kernel
theorem dX9_elementOf_11 : decode cX9_elementOf 11 = .ok (.iload_n 2, 1) := by decide +kernel
theorem dX9_elementOf_12 : decode cX9_elementOf 12 = .ok (.imul, 1) := by decide +kernel
theorem dX9_elementOf_13 : decode cX9_elementOf 13 = .ok (.iadd, 1) := by decide +kernel
theorem dX9_elementOf_14 : decode cX9_elementOf 14 = .ok (.iaload, 1) := by decide +kernel
theorem dX9_elementOf_15 : decode cX9_elementOf 15 = .ok (.ireturn, 1) := by decide +kernel
theorem dX9_baseOf_0 : decode cX9_baseOf 0 = .ok (.aload_n 0, 1) := by decide +kernel
theorem dX9_baseOf_1 : decode cX9_baseOf 1 = .ok (.getfield 17, 3) := by decide +kernel
theorem dX9_baseOf_4 : decode cX9_baseOf 4 = .ok (.iload_n 1, 1) := by decide +kernel
theorem dX9_baseOf_5 : decode cX9_baseOf 5 = .ok (.invokestatic 201, 3) := by decide +kernel
theorem dX9_baseOf_8 : decode cX9_baseOf 8 = .ok (.iconst 3, 1) := by decide +kernel
theorem dX9_baseOf_9 : decode cX9_baseOf 9 = .ok (.iadd, 1) := by decide +kernel
theorem dX9_baseOf_10 : decode cX9_baseOf 10 = .ok (.iconst 2, 1) := by decide +kernel
theorem dX9_baseOf_11 : decode cX9_baseOf 11 = .ok (.iload_n 2, 1) := by decide +kernel
theorem dX9_baseOf_12 : decode cX9_baseOf 12 = .ok (.imul, 1) := by decide +kernel
theorem dX9_baseOf_13 : decode cX9_baseOf 13 = .ok (.iadd, 1) := by decide +kernel
theorem dX9_baseOf_14 : decode cX9_baseOf 14 = .ok (.iconst 1, 1) := by decide +kernel
theorem dX9_baseOf_15 : decode cX9_baseOf 15 = .ok (.iadd, 1) := by decide +kernel
theorem dX9_baseOf_16 : decode cX9_baseOf 16 = .ok (.iaload, 1) := by decide +kernel
theorem dX9_baseOf_17 : decode cX9_baseOf 17 = .ok (.ireturn, 1) := by decide +kernel
theorem dX9_ofBid_0 : decode cX9_ofBid 0 = .ok (.aload_n 0, 1) := by decide +kernel
theorem dX9_ofBid_1 : decode cX9_ofBid 1 = .ok (.getfield 17, 3) := by decide +kernel
theorem dX9_ofBid_4 : decode cX9_ofBid 4 = .ok (.bipush 118, 2) := by decide +kernel
theorem dX9_ofBid_6 : decode cX9_ofBid 6 = .ok (.iconst 3, 1) := by decide +kernel
theorem dX9_ofBid_7 : decode cX9_ofBid 7 = .ok (.iload_n 1, 1) := by decide +kernel
theorem dX9_ofBid_8 : decode cX9_ofBid 8 = .ok (.imul, 1) := by decide +kernel
theorem dX9_ofBid_9 : decode cX9_ofBid 9 = .ok (.iadd, 1) := by decide +kernel
theorem dX9_ofBid_10 : decode cX9_ofBid 10 = .ok (.iload_n 2, 1) := by decide +kernel
theorem dX9_ofBid_11 : decode cX9_ofBid 11 = .ok (.iadd, 1) := by decide +kernel
theorem dX9_ofBid_12 : decode cX9_ofBid 12 = .ok (.iaload, 1) := by decide +kernel
theorem dX9_ofBid_13 : decode cX9_ofBid 13 = .ok (.ireturn, 1) := by decide +kernel
theorem dX9_isOver_0 : decode cX9_isOver 0 = .ok (.aload_n 0, 1) := by decide +kernel
theorem dX9_isOver_1 : decode cX9_isOver 1 = .ok (.getfield 17, 3) := by decide +kernel
theorem dX9_isOver_4 : decode cX9_isOver 4 = .ok (.iconst 1, 1) := by decide +kernel
theorem dX9_isOver_5 : decode cX9_isOver 5 = .ok (.iaload, 1) := by decide +kernel
theorem dX9_isOver_6 : decode cX9_isOver 6 = .ok (.ifCond .eq 18, 3) := by decide +kernel
theorem dX9_isOver_9 : decode cX9_isOver 9 = .ok (.aload_n 0, 1) := by decide +kernel
theorem dX9_isOver_10 : decode cX9_isOver 10 = .ok (.getfield 17, 3) := by decide +kernel
theorem dX9_isOver_13 : decode cX9_isOver 13 = .ok (.iconst 3, 1) := by decide +kernel
theorem dX9_isOver_14 : decode cX9_isOver 14 = .ok (.iaload, 1) := by decide +kernel
theorem dX9_isOver_15 : decode cX9_isOver 15 = .ok (.aload_n 0, 1) := by decide +kernel
theorem dX9_isOver_16 : decode cX9_isOver 16 = .ok (.getfield 17, 3) := by decide +kernel
theorem dX9_isOver_19 : decode cX9_isOver 19 = .ok (.iconst 2, 1) := by decide +kernel
theorem dX9_isOver_20 : decode cX9_isOver 20 = .ok (.iaload, 1) := by decide +kernel
theorem dX9_isOver_21 : decode cX9_isOver 21 = .ok (.if_icmp .lt 7, 3) := by decide +kernel
theorem dX9_isOver_24 : decode cX9_isOver 24 = .ok (.iconst 1, 1) := by decide +kernel
theorem dX9_isOver_25 : decode cX9_isOver 25 = .ok (.goto 4, 3) := by decide +kernel
theorem dX9_isOver_28 : decode cX9_isOver 28 = .ok (.iconst 0, 1) := by decide +kernel
theorem dX9_isOver_29 : decode cX9_isOver 29 = .ok (.ireturn, 1) := by decide +kernel
theorem dX9_productBetween_0 : decode cX9_productBetween 0 = .ok (.aload_n 0, 1) := by decide +kernel
theorem dX9_productBetween_1 : decode cX9_productBetween 1 = .ok (.getfield 17, 3) := by decide +kernel
theorem dX9_productBetween_4 : decode cX9_productBetween 4 = .ok (.iconst 0, 1) := by decide +kernel
theorem dX9_productBetween_5 : decode cX9_productBetween 5 = .ok (.iaload, 1) := by decide +kernel
theorem dX9_productBetween_6 : decode cX9_productBetween 6 = .ok (.invokestatic 54, 3) := by decide +kernel
theorem dX9_productBetween_9 : decode cX9_productBetween 9 = .ok (.istore_n 3, 1) := by decide +kernel
theorem dX9_productBetween_10 : decode cX9_productBetween 10 = .ok (.iload_n 1, 1) := by decide +kernel
theorem dX9_productBetween_11 : decode cX9_productBetween 11 = .ok (.istore 4, 2) := by decide +kernel
theorem dX9_productBetween_13 : decode cX9_productBetween 13 = .ok (.iload 4, 2) := by decide +kernel
theorem dX9_productBetween_15 : decode cX9_productBetween 15 = .ok (.iload_n 2, 1) := by decide +kernel
theorem dX9_productBetween_16 : decode cX9_productBetween 16 = .ok (.if_icmp .ge 27, 3) := by decide +kernel
theorem dX9_productBetween_19 : decode cX9_productBetween 19 = .ok (.iload_n 3, 1) := by decide +kernel
theorem dX9_productBetween_20 : decode cX9_productBetween 20 = .ok (.aload_n 0, 1) := by decide +kernel
theorem dX9_productBetween_21 : decode cX9_productBetween 21 = .ok (.iload 4, 2) := by decide +kernel
theorem dX9_productBetween_23 : decode cX9_productBetween 23 = .ok (.iconst 1, 1) := by decide +kernel
theorem dX9_productBetween_24 : decode cX9_productBetween 24 = .ok (.invokevirtual 204, 3) := by decide +kernel
theorem dX9_productBetween_27 : decode cX9_productBetween 27 = .ok (.aload_n 0, 1) := by decide +kernel
theorem dX9_productBetween_28 : decode cX9_productBetween 28 = .ok (.getfield 17, 3) := by decide +kernel
theorem dX9_productBetween_31 : decode cX9_productBetween 31 = .ok (.iconst 0, 1) := by decide +kernel
theorem dX9_productBetween_32 : decode cX9_productBetween 32 = .ok (.iaload, 1) := by decide +kernel
theorem dX9_productBetween_33 : decode cX9_productBetween 33 = .ok (.invokestatic 58, 3) := by decide +kernel
theorem dX9_productBetween_36 : decode cX9_productBetween 36 = .ok (.istore_n 3, 1) := by decide +kernel
theorem dX9_productBetween_37 : decode cX9_productBetween 37 = .ok (.iinc 4 1, 3) := by decide +kernel
theorem dX9_productBetween_40 : decode cX9_productBetween 40 = .ok (.goto (-27), 3) := by decide +kernel
theorem dX9_productBetween_43 : decode cX9_productBetween 43 = .ok (.iload_n 3, 1) := by decide +kernel
theorem dX9_productBetween_44 : decode cX9_productBetween 44 = .ok (.ireturn, 1) := by decide +kernel
theorem dX9_productNow_0 : decode cX9_productNow 0 = .ok (.aload_n 0, 1) := by decide +kernel
theorem dX9_productNow_1 : decode cX9_productNow 1 = .ok (.iconst 0, 1) := by decide +kernel
theorem dX9_productNow_2 : decode cX9_productNow 2 = .ok (.aload_n 0, 1) := by decide +kernel
theorem dX9_productNow_3 : decode cX9_productNow 3 = .ok (.getfield 17, 3) := by decide +kernel
theorem dX9_productNow_6 : decode cX9_productNow 6 = .ok (.iconst 5, 1) := by decide +kernel
theorem dX9_productNow_7 : decode cX9_productNow 7 = .ok (.iaload, 1) := by decide +kernel
theorem dX9_productNow_8 : decode cX9_productNow 8 = .ok (.invokevirtual 207, 3) := by decide +kernel
theorem dX9_productNow_11 : decode cX9_productNow 11 = .ok (.ireturn, 1) := by decide +kernel
theorem dX9_limited_0 : decode cX9_limited 0 = .ok (.lload_n 0, 1) := by decide +kernel
theorem dX9_limited_1 : decode cX9_limited 1 = .ok (.ldc2_w 210, 3) := by decide +kernel
theorem dX9_limited_4 : decode cX9_limited 4 = .ok (.lcmp, 1) := by decide +kernel
theorem dX9_limited_5 : decode cX9_limited 5 = .ok (.ifCond .le 9, 3) := by decide +kernel
theorem dX9_limited_8 : decode cX9_limited 8 = .ok (.ldc2_w 210, 3) := by decide +kernel
theorem dX9_limited_11 : decode cX9_limited 11 = .ok (.goto 18, 3) := by decide +kernel
theorem dX9_limited_14 : decode cX9_limited 14 = .ok (.lload_n 0, 1) := by decide +kernel
theorem dX9_limited_15 : decode cX9_limited 15 = .ok (.ldc2_w 212, 3) := by decide +kernel
theorem dX9_limited_18 : decode cX9_limited 18 = .ok (.lcmp, 1) := by decide +kernel
theorem dX9_limited_19 : decode cX9_limited 19 = .ok (.ifCond .ge 9, 3) := by decide +kernel
theorem dX9_limited_22 : decode cX9_limited 22 = .ok (.ldc2_w 212, 3) := by decide +kernel
theorem dX9_limited_25 : decode cX9_limited 25 = .ok (.goto 4, 3) := by decide +kernel
theorem dX9_limited_28 : decode cX9_limited 28 = .ok (.lload_n 0, 1) := by decide +kernel
theorem dX9_limited_29 : decode cX9_limited 29 = .ok (.lreturn, 1) := by decide +kernel
theorem dX9_operate_0 : decode cX9_operate 0 = .ok (.iload_n 0, 1) := by decide +kernel
theorem dX9_operate_1 : decode cX9_operate 1 = .ok (.iconst 5, 1) := by decide +kernel
theorem dX9_operate_2 : decode cX9_operate 2 = .ok (.if_icmp .ne 17, 3) := by decide +kernel
theorem dX9_operate_5 : decode cX9_operate 5 = .ok (.lload_n 3, 1) := by decide +kernel
theorem dX9_operate_6 : decode cX9_operate 6 = .ok (.lconst 0, 1) := by decide +kernel
theorem dX9_operate_7 : decode cX9_operate 7 = .ok (.lcmp, 1) := by decide +kernel
theorem dX9_operate_8 : decode cX9_operate 8 = .ok (.ifCond .ne 7, 3) := by decide +kernel
theorem dX9_operate_11 : decode cX9_operate 11 = .ok (.lconst 0, 1) := by decide +kernel
theorem dX9_operate_12 : decode cX9_operate 12 = .ok (.goto 6, 3) := by decide +kernel
theorem dX9_operate_15 : decode cX9_operate 15 = .ok (.lload_n 1, 1) := by decide +kernel
theorem dX9_operate_16 : decode cX9_operate 16 = .ok (.lload_n 3, 1) := by decide +kernel
theorem dX9_operate_17 : decode cX9_operate 17 = .ok (.ldiv, 1) := by decide +kernel
theorem dX9_operate_18 : decode cX9_operate 18 = .ok (.lreturn, 1) := by decide +kernel
theorem dX9_operate_19 : decode cX9_operate 19 = .ok (.iload_n 0, 1) := by decide +kernel
theorem dX9_operate_20 : decode cX9_operate 20 = .ok (.iconst 2, 1) := by decide +kernel
theorem dX9_operate_21 : decode cX9_operate 21 = .ok (.if_icmp .ne 9, 3) := by decide +kernel
theorem dX9_operate_24 : decode cX9_operate 24 = .ok (.lload_n 1, 1) := by decide +kernel
theorem dX9_operate_25 : decode cX9_operate 25 = .ok (.lload_n 3, 1) := by decide +kernel
theorem dX9_operate_26 : decode cX9_operate 26 = .ok (.ladd, 1) := by decide +kernel
theorem dX9_operate_27 : decode cX9_operate 27 = .ok (.goto 17, 3) := by decide +kernel
theorem dX9_operate_30 : decode cX9_operate 30 = .ok (.iload_n 0, 1) := by decide +kernel
theorem dX9_operate_31 : decode cX9_operate 31 = .ok (.iconst 3, 1) := by decide +kernel
theorem dX9_operate_32 : decode cX9_operate 32 = .ok (.if_icmp .ne 9, 3) := by decide +kernel
theorem dX9_operate_35 : decode cX9_operate 35 = .ok (.lload_n 1, 1) := by decide +kernel
theorem dX9_operate_36 : decode cX9_operate 36 = .ok (.lload_n 3, 1) := by decide +kernel
theorem dX9_operate_37 : decode cX9_operate 37 = .ok (.lsub, 1) := by decide +kernel
theorem dX9_operate_38 : decode cX9_operate 38 = .ok (.goto 6, 3) := by decide +kernel
theorem dX9_operate_41 : decode cX9_operate 41 = .ok (.lload_n 1, 1) := by decide +kernel
theorem dX9_operate_42 : decode cX9_operate 42 = .ok (.lload_n 3, 1) := by decide +kernel
theorem dX9_operate_43 : decode cX9_operate 43 = .ok (.lmul, 1) := by decide +kernel
theorem dX9_operate_44 : decode cX9_operate 44 = .ok (.invokestatic 214, 3) := by decide +kernel
theorem dX9_operate_47 : decode cX9_operate 47 = .ok (.lreturn, 1) := by decide +kernel
theorem dX9_priceOf_0 : decode cX9_priceOf 0 = .ok (.iconst 0, 1) := by decide +kernel
theorem dX9_priceOf_1 : decode cX9_priceOf 1 = .ok (.istore_n 3, 1) := by decide +kernel
theorem dX9_priceOf_2 : decode cX9_priceOf 2 = .ok (.aload_n 0, 1) := by decide +kernel
theorem dX9_priceOf_3 : decode cX9_priceOf 3 = .ok (.getfield 28, 3) := by decide +kernel
theorem dX9_priceOf_6 : decode cX9_priceOf 6 = .ok (.iconst 0, 1) := by decide +kernel
theorem dX9_priceOf_7 : decode cX9_priceOf 7 = .ok (.aload_n 0, 1) := by decide +kernel
theorem dX9_priceOf_8 : decode cX9_priceOf 8 = .ok (.iload_n 1, 1) := by decide +kernel
theorem dX9_priceOf_9 : decode cX9_priceOf 9 = .ok (.iload_n 2, 1) := by decide +kernel
theorem dX9_priceOf_10 : decode cX9_priceOf 10 = .ok (.invokevirtual 218, 3) := by decide +kernel
theorem dX9_priceOf_13 : decode cX9_priceOf 13 = .ok (.i2l, 1) := by decide +kernel
theorem dX9_priceOf_14 : decode cX9_priceOf 14 = .ok (.lastore, 1) := by decide +kernel
theorem dX9_priceOf_15 : decode cX9_priceOf 15 = .ok (.iconst 0, 1) := by decide +kernel
theorem dX9_priceOf_16 : decode cX9_priceOf 16 = .ok (.istore 4, 2) := by decide +kernel
theorem dX9_priceOf_18 : decode cX9_priceOf 18 = .ok (.iload 4, 2) := by decide +kernel
theorem dX9_priceOf_20 : decode cX9_priceOf 20 = .ok (.aload_n 0, 1) := by decide +kernel
theorem dX9_priceOf_21 : decode cX9_priceOf 21 = .ok (.getfield 17, 3) := by decide +kernel
theorem dX9_priceOf_24 : decode cX9_priceOf 24 = .ok (.bipush 10, 2) := by decide +kernel
theorem dX9_priceOf_26 : decode cX9_priceOf 26 = .ok (.iaload, 1) := by decide +kernel
theorem dX9_priceOf_27 : decode cX9_priceOf 27 = .ok (.if_icmp .ge 161, 3) := by decide +kernel
theorem dX9_priceOf_30 : decode cX9_priceOf 30 = .ok (.aload_n 0, 1) := by decide +kernel
theorem dX9_priceOf_31 : decode cX9_priceOf 31 = .ok (.getfield 17, 3) := by decide +kernel
theorem dX9_priceOf_34 : decode cX9_priceOf 34 = .ok (.sipush 178, 3) := by decide +kernel
theorem dX9_priceOf_37 : decode cX9_priceOf 37 = .ok (.iload 4, 2) := by decide +kernel
theorem dX9_priceOf_39 : decode cX9_priceOf 39 = .ok (.iadd, 1) := by decide +kernel
theorem dX9_priceOf_40 : decode cX9_priceOf 40 = .ok (.iaload, 1) := by decide +kernel
theorem dX9_priceOf_41 : decode cX9_priceOf 41 = .ok (.istore 5, 2) := by decide +kernel
theorem dX9_priceOf_43 : decode cX9_priceOf 43 = .ok (.iload 5, 2) := by decide +kernel
theorem dX9_priceOf_45 : decode cX9_priceOf 45 = .ok (.iconst 1, 1) := by decide +kernel
theorem dX9_priceOf_46 : decode cX9_priceOf 46 = .ok (.if_icmp .gt 106, 3) := by decide +kernel
theorem dX9_priceOf_49 : decode cX9_priceOf 49 = .ok (.iinc 4 1, 3) := by decide +kernel
theorem dX9_priceOf_52 : decode cX9_priceOf 52 = .ok (.aload_n 0, 1) := by decide +kernel
theorem dX9_priceOf_53 : decode cX9_priceOf 53 = .ok (.getfield 17, 3) := by decide +kernel
theorem dX9_priceOf_56 : decode cX9_priceOf 56 = .ok (.sipush 178, 3) := by decide +kernel
theorem dX9_priceOf_59 : decode cX9_priceOf 59 = .ok (.iload 4, 2) := by decide +kernel
theorem dX9_priceOf_61 : decode cX9_priceOf 61 = .ok (.iadd, 1) := by decide +kernel
theorem dX9_priceOf_62 : decode cX9_priceOf 62 = .ok (.iaload, 1) := by decide +kernel
theorem dX9_priceOf_63 : decode cX9_priceOf 63 = .ok (.istore 6, 2) := by decide +kernel
theorem dX9_priceOf_65 : decode cX9_priceOf 65 = .ok (.aload_n 0, 1) := by decide +kernel
theorem dX9_priceOf_66 : decode cX9_priceOf 66 = .ok (.getfield 28, 3) := by decide +kernel
theorem dX9_priceOf_69 : decode cX9_priceOf 69 = .ok (.iload_n 3, 1) := by decide +kernel
theorem dX9_priceOf_70 : decode cX9_priceOf 70 = .ok (.iload 5, 2) := by decide +kernel
theorem dX9_priceOf_72 : decode cX9_priceOf 72 = .ok (.ifCond .ne 9, 3) := by decide +kernel
theorem dX9_priceOf_75 : decode cX9_priceOf 75 = .ok (.iload 6, 2) := by decide +kernel
theorem dX9_priceOf_77 : decode cX9_priceOf 77 = .ok (.i2l, 1) := by decide +kernel
theorem dX9_priceOf_78 : decode cX9_priceOf 78 = .ok (.goto 67, 3) := by decide +kernel
theorem dX9_priceOf_81 : decode cX9_priceOf 81 = .ok (.iload 6, 2) := by decide +kernel
theorem dX9_priceOf_83 : decode cX9_priceOf 83 = .ok (.ifCond .ne 13, 3) := by decide +kernel
theorem dX9_priceOf_86 : decode cX9_priceOf 86 = .ok (.aload_n 0, 1) := by decide +kernel
theorem dX9_priceOf_87 : decode cX9_priceOf 87 = .ok (.iload_n 1, 1) := by decide +kernel
theorem dX9_priceOf_88 : decode cX9_priceOf 88 = .ok (.iload_n 2, 1) := by decide +kernel
theorem dX9_priceOf_89 : decode cX9_priceOf 89 = .ok (.invokevirtual 218, 3) := by decide +kernel
theorem dX9_priceOf_92 : decode cX9_priceOf 92 = .ok (.i2l, 1) := by decide +kernel
theorem dX9_priceOf_93 : decode cX9_priceOf 93 = .ok (.goto 52, 3) := by decide +kernel
theorem dX9_priceOf_96 : decode cX9_priceOf 96 = .ok (.iload 6, 2) := by decide +kernel
theorem dX9_priceOf_98 : decode cX9_priceOf 98 = .ok (.iconst 1, 1) := by decide +kernel
theorem dX9_priceOf_99 : decode cX9_priceOf 99 = .ok (.if_icmp .ne 22, 3) := by decide +kernel
theorem dX9_priceOf_102 : decode cX9_priceOf 102 = .ok (.aload_n 0, 1) := by decide +kernel
theorem dX9_priceOf_103 : decode cX9_priceOf 103 = .ok (.iload_n 1, 1) := by decide +kernel
theorem dX9_priceOf_104 : decode cX9_priceOf 104 = .ok (.iload_n 2, 1) := by decide +kernel
theorem dX9_priceOf_105 : decode cX9_priceOf 105 = .ok (.invokevirtual 221, 3) := by decide +kernel
theorem dX9_priceOf_108 : decode cX9_priceOf 108 = .ok (.aload_n 0, 1) := by decide +kernel
theorem dX9_priceOf_109 : decode cX9_priceOf 109 = .ok (.getfield 17, 3) := by decide +kernel
theorem dX9_priceOf_112 : decode cX9_priceOf 112 = .ok (.iconst 0, 1) := by decide +kernel
theorem dX9_priceOf_113 : decode cX9_priceOf 113 = .ok (.iaload, 1) := by decide +kernel
theorem dX9_priceOf_114 : decode cX9_priceOf 114 = .ok (.invokestatic 224, 3) := by decide +kernel
theorem dX9_priceOf_117 : decode cX9_priceOf 117 = .ok (.i2l, 1) := by decide +kernel
theorem dX9_priceOf_118 : decode cX9_priceOf 118 = .ok (.goto 27, 3) := by decide +kernel
theorem dX9_priceOf_121 : decode cX9_priceOf 121 = .ok (.iload 6, 2) := by decide +kernel
theorem dX9_priceOf_123 : decode cX9_priceOf 123 = .ok (.iconst 2, 1) := by decide +kernel
theorem dX9_priceOf_124 : decode cX9_priceOf 124 = .ok (.if_icmp .ne 13, 3) := by decide +kernel
theorem dX9_priceOf_127 : decode cX9_priceOf 127 = .ok (.aload_n 0, 1) := by decide +kernel
theorem dX9_priceOf_128 : decode cX9_priceOf 128 = .ok (.getfield 17, 3) := by decide +kernel
theorem dX9_priceOf_131 : decode cX9_priceOf 131 = .ok (.iconst 5, 1) := by decide +kernel
theorem dX9_priceOf_132 : decode cX9_priceOf 132 = .ok (.iaload, 1) := by decide +kernel
theorem dX9_priceOf_133 : decode cX9_priceOf 133 = .ok (.i2l, 1) := by decide +kernel
theorem dX9_priceOf_134 : decode cX9_priceOf 134 = .ok (.goto 11, 3) := by decide +kernel
theorem dX9_priceOf_137 : decode cX9_priceOf 137 = .ok (.aload_n 0, 1) := by decide +kernel
theorem dX9_priceOf_138 : decode cX9_priceOf 138 = .ok (.getfield 17, 3) := by decide +kernel
theorem dX9_priceOf_141 : decode cX9_priceOf 141 = .ok (.bipush 6, 2) := by decide +kernel
theorem dX9_priceOf_143 : decode cX9_priceOf 143 = .ok (.iaload, 1) := by decide +kernel
theorem dX9_priceOf_144 : decode cX9_priceOf 144 = .ok (.i2l, 1) := by decide +kernel
theorem dX9_priceOf_145 : decode cX9_priceOf 145 = .ok (.lastore, 1) := by decide +kernel
theorem dX9_priceOf_146 : decode cX9_priceOf 146 = .ok (.iinc 3 1, 3) := by decide +kernel
theorem dX9_priceOf_149 : decode cX9_priceOf 149 = .ok (.goto 33, 3) := by decide +kernel
theorem dX9_priceOf_152 : decode cX9_priceOf 152 = .ok (.iinc 3 (-1), 3) := by decide +kernel
theorem dX9_priceOf_155 : decode cX9_priceOf 155 = .ok (.aload_n 0, 1) := by decide +kernel
theorem dX9_priceOf_156 : decode cX9_priceOf 156 = .ok (.getfield 28, 3) := by decide +kernel
theorem dX9_priceOf_159 : decode cX9_priceOf 159 = .ok (.iload_n 3, 1) := by decide +kernel
theorem dX9_priceOf_160 : decode cX9_priceOf 160 = .ok (.iconst 1, 1) := by decide +kernel
theorem dX9_priceOf_161 : decode cX9_priceOf 161 = .ok (.isub, 1) := by decide +kernel
theorem dX9_priceOf_162 : decode cX9_priceOf 162 = .ok (.iload 5, 2) := by decide +kernel
theorem dX9_priceOf_164 : decode cX9_priceOf 164 = .ok (.aload_n 0, 1) := by decide +kernel
theorem dX9_priceOf_165 : decode cX9_priceOf 165 = .ok (.getfield 28, 3) := by decide +kernel
theorem dX9_priceOf_168 : decode cX9_priceOf 168 = .ok (.iload_n 3, 1) := by decide +kernel
theorem dX9_priceOf_169 : decode cX9_priceOf 169 = .ok (.iconst 1, 1) := by decide +kernel
theorem dX9_priceOf_170 : decode cX9_priceOf 170 = .ok (.isub, 1) := by decide +kernel
theorem dX9_priceOf_171 : decode cX9_priceOf 171 = .ok (.laload, 1) := by decide +kernel
theorem dX9_priceOf_172 : decode cX9_priceOf 172 = .ok (.aload_n 0, 1) := by decide +kernel
theorem dX9_priceOf_173 : decode cX9_priceOf 173 = .ok (.getfield 28, 3) := by decide +kernel
theorem dX9_priceOf_176 : decode cX9_priceOf 176 = .ok (.iload_n 3, 1) := by decide +kernel
theorem dX9_priceOf_177 : decode cX9_priceOf 177 = .ok (.laload, 1) := by decide +kernel
theorem dX9_priceOf_178 : decode cX9_priceOf 178 = .ok (.invokestatic 227, 3) := by decide +kernel
theorem dX9_priceOf_181 : decode cX9_priceOf 181 = .ok (.lastore, 1) := by decide +kernel
theorem dX9_priceOf_182 : decode cX9_priceOf 182 = .ok (.iinc 4 1, 3) := by decide +kernel
theorem dX9_priceOf_185 : decode cX9_priceOf 185 = .ok (.goto (-167), 3) := by decide +kernel
theorem dX9_priceOf_188 : decode cX9_priceOf 188 = .ok (.aload_n 0, 1) := by decide +kernel
theorem dX9_priceOf_189 : decode cX9_priceOf 189 = .ok (.getfield 28, 3) := by decide +kernel
theorem dX9_priceOf_192 : decode cX9_priceOf 192 = .ok (.iconst 0, 1) := by decide +kernel
theorem dX9_priceOf_193 : decode cX9_priceOf 193 = .ok (.laload, 1) := by decide +kernel
theorem dX9_priceOf_194 : decode cX9_priceOf 194 = .ok (.lconst 0, 1) := by decide +kernel
theorem dX9_priceOf_195 : decode cX9_priceOf 195 = .ok (.lcmp, 1) := by decide +kernel
theorem dX9_priceOf_196 : decode cX9_priceOf 196 = .ok (.ifCond .ge 7, 3) := by decide +kernel
theorem dX9_priceOf_199 : decode cX9_priceOf 199 = .ok (.iconst 0, 1) := by decide +kernel
theorem dX9_priceOf_200 : decode cX9_priceOf 200 = .ok (.goto 29, 3) := by decide +kernel
theorem dX9_priceOf_203 : decode cX9_priceOf 203 = .ok (.aload_n 0, 1) := by decide +kernel
theorem dX9_priceOf_204 : decode cX9_priceOf 204 = .ok (.getfield 28, 3) := by decide +kernel
theorem dX9_priceOf_207 : decode cX9_priceOf 207 = .ok (.iconst 0, 1) := by decide +kernel
theorem dX9_priceOf_208 : decode cX9_priceOf 208 = .ok (.laload, 1) := by decide +kernel
theorem dX9_priceOf_209 : decode cX9_priceOf 209 = .ok (.ldc2_w 231, 3) := by decide +kernel
theorem dX9_priceOf_212 : decode cX9_priceOf 212 = .ok (.lcmp, 1) := by decide +kernel
theorem dX9_priceOf_213 : decode cX9_priceOf 213 = .ok (.ifCond .le 9, 3) := by decide +kernel
theorem dX9_priceOf_216 : decode cX9_priceOf 216 = .ok (.sipush 9999, 3) := by decide +kernel
theorem dX9_priceOf_219 : decode cX9_priceOf 219 = .ok (.goto 10, 3) := by decide +kernel
theorem dX9_priceOf_222 : decode cX9_priceOf 222 = .ok (.aload_n 0, 1) := by decide +kernel
theorem dX9_priceOf_223 : decode cX9_priceOf 223 = .ok (.getfield 28, 3) := by decide +kernel
theorem dX9_priceOf_226 : decode cX9_priceOf 226 = .ok (.iconst 0, 1) := by decide +kernel
theorem dX9_priceOf_227 : decode cX9_priceOf 227 = .ok (.laload, 1) := by decide +kernel
theorem dX9_priceOf_228 : decode cX9_priceOf 228 = .ok (.l2i, 1) := by decide +kernel
theorem dX9_priceOf_229 : decode cX9_priceOf 229 = .ok (.ireturn, 1) := by decide +kernel
theorem dX9_layGroup_0 : decode cX9_layGroup 0 = .ok (.aload_n 0, 1) := by decide +kernel
theorem dX9_layGroup_1 : decode cX9_layGroup 1 = .ok (.getfield 233, 3) := by decide +kernel
theorem dX9_layGroup_4 : decode cX9_layGroup 4 = .ok (.aload_n 0, 1) := by decide +kernel
theorem dX9_layGroup_5 : decode cX9_layGroup 5 = .ok (.getfield 17, 3) := by decide +kernel
theorem dX9_layGroup_8 : decode cX9_layGroup 8 = .ok (.iconst 0, 1) := by decide +kernel
theorem dX9_layGroup_9 : decode cX9_layGroup 9 = .ok (.iaload, 1) := by decide +kernel
theorem dX9_layGroup_10 : decode cX9_layGroup 10 = .ok (.if_icmp .ne 4, 3) := by decide +kernel
theorem dX9_layGroup_13 : decode cX9_layGroup 13 = .ok (.return_, 1) := by decide +kernel
theorem dX9_layGroup_14 : decode cX9_layGroup 14 = .ok (.aload_n 0, 1) := by decide +kernel
theorem dX9_layGroup_15 : decode cX9_layGroup 15 = .ok (.aload_n 0, 1) := by decide +kernel
theorem dX9_layGroup_16 : decode cX9_layGroup 16 = .ok (.getfield 17, 3) := by decide +kernel
theorem dX9_layGroup_19 : decode cX9_layGroup 19 = .ok (.iconst 0, 1) := by decide +kernel
theorem dX9_layGroup_20 : decode cX9_layGroup 20 = .ok (.iaload, 1) := by decide +kernel
theorem dX9_layGroup_21 : decode cX9_layGroup 21 = .ok (.putfield 233, 3) := by decide +kernel
theorem dX9_layGroup_24 : decode cX9_layGroup 24 = .ok (.aload_n 0, 1) := by decide +kernel
theorem dX9_layGroup_25 : decode cX9_layGroup 25 = .ok (.iconst 0, 1) := by decide +kernel
theorem dX9_layGroup_26 : decode cX9_layGroup 26 = .ok (.putfield 236, 3) := by decide +kernel
theorem dX9_layGroup_29 : decode cX9_layGroup 29 = .ok (.aload_n 0, 1) := by decide +kernel
theorem dX9_layGroup_30 : decode cX9_layGroup 30 = .ok (.getfield 233, 3) := by decide +kernel
theorem dX9_layGroup_33 : decode cX9_layGroup 33 = .ok (.invokestatic 54, 3) := by decide +kernel
theorem dX9_layGroup_36 : decode cX9_layGroup 36 = .ok (.istore_n 1, 1) := by decide +kernel
theorem dX9_layGroup_37 : decode cX9_layGroup 37 = .ok (.iload_n 1, 1) := by decide +kernel
theorem dX9_layGroup_38 : decode cX9_layGroup 38 = .ok (.ldc 49, 2) := by decide +kernel
theorem dX9_layGroup_40 : decode cX9_layGroup 40 = .ok (.if_icmp .gt 53, 3) := by decide +kernel
theorem dX9_layGroup_43 : decode cX9_layGroup 43 = .ok (.iload_n 1, 1) := by decide +kernel
theorem dX9_layGroup_44 : decode cX9_layGroup 44 = .ok (.aload_n 0, 1) := by decide +kernel
theorem dX9_layGroup_45 : decode cX9_layGroup 45 = .ok (.getfield 233, 3) := by decide +kernel
theorem dX9_layGroup_48 : decode cX9_layGroup 48 = .ok (.invokestatic 153, 3) := by decide +kernel
theorem dX9_layGroup_51 : decode cX9_layGroup 51 = .ok (.ifCond .ne 6, 3) := by decide +kernel
theorem dX9_layGroup_54 : decode cX9_layGroup 54 = .ok (.goto 33, 3) := by decide +kernel
theorem dX9_layGroup_57 : decode cX9_layGroup 57 = .ok (.aload_n 0, 1) := by decide +kernel
theorem dX9_layGroup_58 : decode cX9_layGroup 58 = .ok (.getfield 32, 3) := by decide +kernel
theorem dX9_layGroup_61 : decode cX9_layGroup 61 = .ok (.aload_n 0, 1) := by decide +kernel
theorem dX9_layGroup_62 : decode cX9_layGroup 62 = .ok (.getfield 236, 3) := by decide +kernel
theorem dX9_layGroup_65 : decode cX9_layGroup 65 = .ok (.iload_n 1, 1) := by decide +kernel
theorem dX9_layGroup_66 : decode cX9_layGroup 66 = .ok (.iastore, 1) := by decide +kernel
theorem dX9_layGroup_67 : decode cX9_layGroup 67 = .ok (.aload_n 0, 1) := by decide +kernel
theorem dX9_layGroup_68 : decode cX9_layGroup 68 = .ok (.getfield 36, 3) := by decide +kernel
theorem dX9_layGroup_71 : decode cX9_layGroup 71 = .ok (.iload_n 1, 1) := by decide +kernel
theorem dX9_layGroup_72 : decode cX9_layGroup 72 = .ok (.aload_n 0, 1) := by decide +kernel
theorem dX9_layGroup_73 : decode cX9_layGroup 73 = .ok (.getfield 236, 3) := by decide +kernel
theorem dX9_layGroup_76 : decode cX9_layGroup 76 = .ok (.iastore, 1) := by decide +kernel
theorem dX9_layGroup_77 : decode cX9_layGroup 77 = .ok (.aload_n 0, 1) := by decide +kernel
theorem dX9_layGroup_78 : decode cX9_layGroup 78 = .ok (.dup, 1) := by decide +kernel
theorem dX9_layGroup_79 : decode cX9_layGroup 79 = .ok (.getfield 236, 3) := by decide +kernel
theorem dX9_layGroup_82 : decode cX9_layGroup 82 = .ok (.iconst 1, 1) := by decide +kernel
theorem dX9_layGroup_83 : decode cX9_layGroup 83 = .ok (.iadd, 1) := by decide +kernel
theorem dX9_layGroup_84 : decode cX9_layGroup 84 = .ok (.putfield 236, 3) := by decide +kernel
theorem dX9_layGroup_87 : decode cX9_layGroup 87 = .ok (.iinc 1 1, 3) := by decide +kernel
theorem dX9_layGroup_90 : decode cX9_layGroup 90 = .ok (.goto (-53), 3) := by decide +kernel
theorem dX9_layGroup_93 : decode cX9_layGroup 93 = .ok (.return_, 1) := by decide +kernel
theorem dX9_layFrom_0 : decode cX9_layFrom 0 = .ok (.aload_n 0, 1) := by decide +kernel
theorem dX9_layFrom_1 : decode cX9_layFrom 1 = .ok (.invokevirtual 239, 3) := by decide +kernel
theorem dX9_layFrom_4 : decode cX9_layFrom 4 = .ok (.iconst 1, 1) := by decide +kernel
theorem dX9_layFrom_5 : decode cX9_layFrom 5 = .ok (.aload_n 0, 1) := by decide +kernel
theorem dX9_layFrom_6 : decode cX9_layFrom 6 = .ok (.iload_n 1, 1) := by decide +kernel
theorem dX9_layFrom_7 : decode cX9_layFrom 7 = .ok (.invokevirtual 242, 3) := by decide +kernel
theorem dX9_layFrom_10 : decode cX9_layFrom 10 = .ok (.ishl, 1) := by decide +kernel
theorem dX9_layFrom_11 : decode cX9_layFrom 11 = .ok (.istore 4, 2) := by decide +kernel
theorem dX9_layFrom_13 : decode cX9_layFrom 13 = .ok (.iconst 0, 1) := by decide +kernel
theorem dX9_layFrom_14 : decode cX9_layFrom 14 = .ok (.istore 5, 2) := by decide +kernel
theorem dX9_layFrom_16 : decode cX9_layFrom 16 = .ok (.iload 5, 2) := by decide +kernel
theorem dX9_layFrom_18 : decode cX9_layFrom 18 = .ok (.iload 4, 2) := by decide +kernel
theorem dX9_layFrom_20 : decode cX9_layFrom 20 = .ok (.bipush 120, 2) := by decide +kernel
theorem dX9_layFrom_22 : decode cX9_layFrom 22 = .ok (.imul, 1) := by decide +kernel
theorem dX9_layFrom_23 : decode cX9_layFrom 23 = .ok (.if_icmp .ge 17, 3) := by decide +kernel
theorem dX9_layFrom_26 : decode cX9_layFrom 26 = .ok (.aload_n 0, 1) := by decide +kernel
theorem dX9_layFrom_27 : decode cX9_layFrom 27 = .ok (.getfield 39, 3) := by decide +kernel
theorem dX9_layFrom_30 : decode cX9_layFrom 30 = .ok (.iload 5, 2) := by decide +kernel
theorem dX9_layFrom_32 : decode cX9_layFrom 32 = .ok (.iconst 0, 1) := by decide +kernel
theorem dX9_layFrom_33 : decode cX9_layFrom 33 = .ok (.bastore, 1) := by decide +kernel
theorem dX9_layFrom_34 : decode cX9_layFrom 34 = .ok (.iinc 5 1, 3) := by decide +kernel
theorem dX9_layFrom_37 : decode cX9_layFrom 37 = .ok (.goto (-21), 3) := by decide +kernel
theorem dX9_layFrom_40 : decode cX9_layFrom 40 = .ok (.aload_n 0, 1) := by decide +kernel
theorem dX9_layFrom_41 : decode cX9_layFrom 41 = .ok (.getfield 39, 3) := by decide +kernel
theorem dX9_layFrom_44 : decode cX9_layFrom 44 = .ok (.aload_n 0, 1) := by decide +kernel
theorem dX9_layFrom_45 : decode cX9_layFrom 45 = .ok (.getfield 36, 3) := by decide +kernel
theorem dX9_layFrom_48 : decode cX9_layFrom 48 = .ok (.iload_n 2, 1) := by decide +kernel
theorem dX9_layFrom_49 : decode cX9_layFrom 49 = .ok (.iaload, 1) := by decide +kernel
theorem dX9_layFrom_50 : decode cX9_layFrom 50 = .ok (.iconst 1, 1) := by decide +kernel
theorem dX9_layFrom_51 : decode cX9_layFrom 51 = .ok (.bastore, 1) := by decide +kernel
theorem dX9_layFrom_52 : decode cX9_layFrom 52 = .ok (.iconst 0, 1) := by decide +kernel
theorem dX9_layFrom_53 : decode cX9_layFrom 53 = .ok (.istore 5, 2) := by decide +kernel
theorem dX9_layFrom_55 : decode cX9_layFrom 55 = .ok (.iload 5, 2) := by decide +kernel
theorem dX9_layFrom_57 : decode cX9_layFrom 57 = .ok (.iload 4, 2) := by decide +kernel
theorem dX9_layFrom_59 : decode cX9_layFrom 59 = .ok (.if_icmp .ge 128, 3) := by decide +kernel
theorem dX9_layFrom_62 : decode cX9_layFrom 62 = .ok (.iconst 0, 1) := by decide +kernel
theorem dX9_layFrom_63 : decode cX9_layFrom 63 = .ok (.istore 6, 2) := by decide +kernel
theorem dX9_layFrom_65 : decode cX9_layFrom 65 = .ok (.iload 6, 2) := by decide +kernel
theorem dX9_layFrom_67 : decode cX9_layFrom 67 = .ok (.aload_n 0, 1) := by decide +kernel
theorem dX9_layFrom_68 : decode cX9_layFrom 68 = .ok (.getfield 236, 3) := by decide +kernel
theorem dX9_layFrom_71 : decode cX9_layFrom 71 = .ok (.if_icmp .ge 110, 3) := by decide +kernel
theorem dX9_layFrom_74 : decode cX9_layFrom 74 = .ok (.aload_n 0, 1) := by decide +kernel
theorem dX9_layFrom_75 : decode cX9_layFrom 75 = .ok (.getfield 39, 3) := by decide +kernel
theorem dX9_layFrom_78 : decode cX9_layFrom 78 = .ok (.bipush 120, 2) := by decide +kernel
theorem dX9_layFrom_80 : decode cX9_layFrom 80 = .ok (.iload 5, 2) := by decide +kernel
theorem dX9_layFrom_82 : decode cX9_layFrom 82 = .ok (.imul, 1) := by decide +kernel
theorem dX9_layFrom_83 : decode cX9_layFrom 83 = .ok (.iload 6, 2) := by decide +kernel
theorem dX9_layFrom_85 : decode cX9_layFrom 85 = .ok (.iadd, 1) := by decide +kernel
theorem dX9_layFrom_86 : decode cX9_layFrom 86 = .ok (.baload, 1) := by decide +kernel
theorem dX9_layFrom_87 : decode cX9_layFrom 87 = .ok (.ifCond .ne 6, 3) := by decide +kernel
theorem dX9_layFrom_90 : decode cX9_layFrom 90 = .ok (.goto 85, 3) := by decide +kernel
theorem dX9_layFrom_93 : decode cX9_layFrom 93 = .ok (.iconst 0, 1) := by decide +kernel
theorem dX9_layFrom_94 : decode cX9_layFrom 94 = .ok (.istore 7, 2) := by decide +kernel
theorem dX9_layFrom_96 : decode cX9_layFrom 96 = .ok (.iload 7, 2) := by decide +kernel
theorem dX9_layFrom_98 : decode cX9_layFrom 98 = .ok (.aload_n 0, 1) := by decide +kernel
theorem dX9_layFrom_99 : decode cX9_layFrom 99 = .ok (.iload_n 1, 1) := by decide +kernel
theorem dX9_layFrom_100 : decode cX9_layFrom 100 = .ok (.invokevirtual 242, 3) := by decide +kernel
theorem dX9_layFrom_103 : decode cX9_layFrom 103 = .ok (.if_icmp .ge 72, 3) := by decide +kernel
theorem dX9_layFrom_106 : decode cX9_layFrom 106 = .ok (.iload 7, 2) := by decide +kernel
theorem dX9_layFrom_108 : decode cX9_layFrom 108 = .ok (.iload_n 3, 1) := by decide +kernel
theorem dX9_layFrom_109 : decode cX9_layFrom 109 = .ok (.if_icmp .eq 60, 3) := by decide +kernel
theorem dX9_layFrom_112 : decode cX9_layFrom 112 = .ok (.iload 5, 2) := by decide +kernel
theorem dX9_layFrom_114 : decode cX9_layFrom 114 = .ok (.iload 7, 2) := by decide +kernel
theorem dX9_layFrom_116 : decode cX9_layFrom 116 = .ok (.ishr, 1) := by decide +kernel
theorem dX9_layFrom_117 : decode cX9_layFrom 117 = .ok (.iconst 1, 1) := by decide +kernel
theorem dX9_layFrom_118 : decode cX9_layFrom 118 = .ok (.iand, 1) := by decide +kernel
theorem dX9_layFrom_119 : decode cX9_layFrom 119 = .ok (.iconst 1, 1) := by decide +kernel
theorem dX9_layFrom_120 : decode cX9_layFrom 120 = .ok (.if_icmp .ne 6, 3) := by decide +kernel
theorem dX9_layFrom_123 : decode cX9_layFrom 123 = .ok (.goto 46, 3) := by decide +kernel
theorem dX9_layFrom_126 : decode cX9_layFrom 126 = .ok (.aload_n 0, 1) := by decide +kernel
theorem dX9_layFrom_127 : decode cX9_layFrom 127 = .ok (.getfield 39, 3) := by decide +kernel
theorem dX9_layFrom_130 : decode cX9_layFrom 130 = .ok (.bipush 120, 2) := by decide +kernel
theorem dX9_layFrom_132 : decode cX9_layFrom 132 = .ok (.iload 5, 2) := by decide +kernel
theorem dX9_layFrom_134 : decode cX9_layFrom 134 = .ok (.iconst 1, 1) := by decide +kernel
theorem dX9_layFrom_135 : decode cX9_layFrom 135 = .ok (.iload 7, 2) := by decide +kernel
theorem dX9_layFrom_137 : decode cX9_layFrom 137 = .ok (.ishl, 1) := by decide +kernel
theorem dX9_layFrom_138 : decode cX9_layFrom 138 = .ok (.ior, 1) := by decide +kernel
theorem dX9_layFrom_139 : decode cX9_layFrom 139 = .ok (.imul, 1) := by decide +kernel
theorem dX9_layFrom_140 : decode cX9_layFrom 140 = .ok (.aload_n 0, 1) := by decide +kernel
theorem dX9_layFrom_141 : decode cX9_layFrom 141 = .ok (.getfield 36, 3) := by decide +kernel
theorem dX9_layFrom_144 : decode cX9_layFrom 144 = .ok (.aload_n 0, 1) := by decide +kernel
theorem dX9_layFrom_145 : decode cX9_layFrom 145 = .ok (.getfield 32, 3) := by decide +kernel
theorem dX9_layFrom_148 : decode cX9_layFrom 148 = .ok (.iload 6, 2) := by decide +kernel
theorem dX9_layFrom_150 : decode cX9_layFrom 150 = .ok (.iaload, 1) := by decide +kernel
theorem dX9_layFrom_151 : decode cX9_layFrom 151 = .ok (.aload_n 0, 1) := by decide +kernel
theorem dX9_layFrom_152 : decode cX9_layFrom 152 = .ok (.iload_n 1, 1) := by decide +kernel
theorem dX9_layFrom_153 : decode cX9_layFrom 153 = .ok (.iload 7, 2) := by decide +kernel
theorem dX9_layFrom_155 : decode cX9_layFrom 155 = .ok (.invokevirtual 221, 3) := by decide +kernel
theorem dX9_layFrom_158 : decode cX9_layFrom 158 = .ok (.aload_n 0, 1) := by decide +kernel
theorem dX9_layFrom_159 : decode cX9_layFrom 159 = .ok (.getfield 233, 3) := by decide +kernel
theorem dX9_layFrom_162 : decode cX9_layFrom 162 = .ok (.invokestatic 58, 3) := by decide +kernel
theorem dX9_layFrom_165 : decode cX9_layFrom 165 = .ok (.iaload, 1) := by decide +kernel
theorem dX9_layFrom_166 : decode cX9_layFrom 166 = .ok (.iadd, 1) := by decide +kernel
theorem dX9_layFrom_167 : decode cX9_layFrom 167 = .ok (.iconst 1, 1) := by decide +kernel
theorem dX9_layFrom_168 : decode cX9_layFrom 168 = .ok (.bastore, 1) := by decide +kernel
theorem dX9_layFrom_169 : decode cX9_layFrom 169 = .ok (.iinc 7 1, 3) := by decide +kernel
theorem dX9_layFrom_172 : decode cX9_layFrom 172 = .ok (.goto (-76), 3) := by decide +kernel
theorem dX9_layFrom_175 : decode cX9_layFrom 175 = .ok (.iinc 6 1, 3) := by decide +kernel
theorem dX9_layFrom_178 : decode cX9_layFrom 178 = .ok (.goto (-113), 3) := by decide +kernel
theorem dX9_layFrom_181 : decode cX9_layFrom 181 = .ok (.iinc 5 1, 3) := by decide +kernel
theorem dX9_layFrom_184 : decode cX9_layFrom 184 = .ok (.goto (-129), 3) := by decide +kernel
theorem dX9_layFrom_187 : decode cX9_layFrom 187 = .ok (.return_, 1) := by decide +kernel
theorem dX9_bits_0 : decode cX9_bits 0 = .ok (.iconst 0, 1) := by decide +kernel
theorem dX9_bits_1 : decode cX9_bits 1 = .ok (.istore_n 1, 1) := by decide +kernel
theorem dX9_bits_2 : decode cX9_bits 2 = .ok (.iconst 0, 1) := by decide +kernel
theorem dX9_bits_3 : decode cX9_bits 3 = .ok (.istore_n 2, 1) := by decide +kernel
theorem dX9_bits_4 : decode cX9_bits 4 = .ok (.iload_n 2, 1) := by decide +kernel
theorem dX9_bits_5 : decode cX9_bits 5 = .ok (.bipush 8, 2) := by decide +kernel
theorem dX9_bits_7 : decode cX9_bits 7 = .ok (.if_icmp .ge 17, 3) := by decide +kernel
theorem dX9_bits_10 : decode cX9_bits 10 = .ok (.iload_n 1, 1) := by decide +kernel
theorem dX9_bits_11 : decode cX9_bits 11 = .ok (.iload_n 0, 1) := by decide +kernel
theorem dX9_bits_12 : decode cX9_bits 12 = .ok (.iload_n 2, 1) := by decide +kernel
theorem dX9_bits_13 : decode cX9_bits 13 = .ok (.ishr, 1) := by decide +kernel
theorem dX9_bits_14 : decode cX9_bits 14 = .ok (.iconst 1, 1) := by decide +kernel
theorem dX9_bits_15 : decode cX9_bits 15 = .ok (.iand, 1) := by decide +kernel
theorem dX9_bits_16 : decode cX9_bits 16 = .ok (.iadd, 1) := by decide +kernel
theorem dX9_bits_17 : decode cX9_bits 17 = .ok (.istore_n 1, 1) := by decide +kernel
theorem dX9_bits_18 : decode cX9_bits 18 = .ok (.iinc 2 1, 3) := by decide +kernel
theorem dX9_bits_21 : decode cX9_bits 21 = .ok (.goto (-17), 3) := by decide +kernel
theorem dX9_bits_24 : decode cX9_bits 24 = .ok (.iload_n 1, 1) := by decide +kernel
theorem dX9_bits_25 : decode cX9_bits 25 = .ok (.ireturn, 1) := by decide +kernel
theorem dX9_fewestLaid_0 : decode cX9_fewestLaid 0 = .ok (.iconst (-1), 1) := by decide +kernel
theorem dX9_fewestLaid_1 : decode cX9_fewestLaid 1 = .ok (.istore_n 3, 1) := by decide +kernel
theorem dX9_fewestLaid_2 : decode cX9_fewestLaid 2 = .ok (.aload_n 0, 1) := by decide +kernel
theorem dX9_fewestLaid_3 : decode cX9_fewestLaid 3 = .ok (.getfield 36, 3) := by decide +kernel
theorem dX9_fewestLaid_6 : decode cX9_fewestLaid 6 = .ok (.aload_n 0, 1) := by decide +kernel
theorem dX9_fewestLaid_7 : decode cX9_fewestLaid 7 = .ok (.getfield 233, 3) := by decide +kernel
theorem dX9_fewestLaid_10 : decode cX9_fewestLaid 10 = .ok (.invokestatic 54, 3) := by decide +kernel
theorem dX9_fewestLaid_13 : decode cX9_fewestLaid 13 = .ok (.iaload, 1) := by decide +kernel
theorem dX9_fewestLaid_14 : decode cX9_fewestLaid 14 = .ok (.istore 4, 2) := by decide +kernel
theorem dX9_fewestLaid_16 : decode cX9_fewestLaid 16 = .ok (.iload_n 2, 1) := by decide +kernel
theorem dX9_fewestLaid_17 : decode cX9_fewestLaid 17 = .ok (.istore 5, 2) := by decide +kernel
theorem dX9_fewestLaid_19 : decode cX9_fewestLaid 19 = .ok (.iload 5, 2) := by decide +kernel
theorem dX9_fewestLaid_21 : decode cX9_fewestLaid 21 = .ok (.iconst 1, 1) := by decide +kernel
theorem dX9_fewestLaid_22 : decode cX9_fewestLaid 22 = .ok (.aload_n 0, 1) := by decide +kernel
theorem dX9_fewestLaid_23 : decode cX9_fewestLaid 23 = .ok (.iload_n 1, 1) := by decide +kernel
theorem dX9_fewestLaid_24 : decode cX9_fewestLaid 24 = .ok (.invokevirtual 242, 3) := by decide +kernel
theorem dX9_fewestLaid_27 : decode cX9_fewestLaid 27 = .ok (.ishl, 1) := by decide +kernel
theorem dX9_fewestLaid_28 : decode cX9_fewestLaid 28 = .ok (.if_icmp .ge 45, 3) := by decide +kernel
theorem dX9_fewestLaid_31 : decode cX9_fewestLaid 31 = .ok (.aload_n 0, 1) := by decide +kernel
theorem dX9_fewestLaid_32 : decode cX9_fewestLaid 32 = .ok (.getfield 39, 3) := by decide +kernel
theorem dX9_fewestLaid_35 : decode cX9_fewestLaid 35 = .ok (.bipush 120, 2) := by decide +kernel
theorem dX9_fewestLaid_37 : decode cX9_fewestLaid 37 = .ok (.iload 5, 2) := by decide +kernel
theorem dX9_fewestLaid_39 : decode cX9_fewestLaid 39 = .ok (.imul, 1) := by decide +kernel
theorem dX9_fewestLaid_40 : decode cX9_fewestLaid 40 = .ok (.iload 4, 2) := by decide +kernel
theorem dX9_fewestLaid_42 : decode cX9_fewestLaid 42 = .ok (.iadd, 1) := by decide +kernel
theorem dX9_fewestLaid_43 : decode cX9_fewestLaid 43 = .ok (.baload, 1) := by decide +kernel
theorem dX9_fewestLaid_44 : decode cX9_fewestLaid 44 = .ok (.ifCond .eq 23, 3) := by decide +kernel
theorem dX9_fewestLaid_47 : decode cX9_fewestLaid 47 = .ok (.iload_n 3, 1) := by decide +kernel
theorem dX9_fewestLaid_48 : decode cX9_fewestLaid 48 = .ok (.iconst (-1), 1) := by decide +kernel
theorem dX9_fewestLaid_49 : decode cX9_fewestLaid 49 = .ok (.if_icmp .eq 12, 3) := by decide +kernel
theorem dX9_fewestLaid_52 : decode cX9_fewestLaid 52 = .ok (.iload 5, 2) := by decide +kernel
theorem dX9_fewestLaid_54 : decode cX9_fewestLaid 54 = .ok (.invokestatic 245, 3) := by decide +kernel
theorem dX9_fewestLaid_57 : decode cX9_fewestLaid 57 = .ok (.iload_n 3, 1) := by decide +kernel
theorem dX9_fewestLaid_58 : decode cX9_fewestLaid 58 = .ok (.if_icmp .ge 9, 3) := by decide +kernel
theorem dX9_fewestLaid_61 : decode cX9_fewestLaid 61 = .ok (.iload 5, 2) := by decide +kernel
theorem dX9_fewestLaid_63 : decode cX9_fewestLaid 63 = .ok (.invokestatic 245, 3) := by decide +kernel
theorem dX9_fewestLaid_66 : decode cX9_fewestLaid 66 = .ok (.istore_n 3, 1) := by decide +kernel
theorem dX9_fewestLaid_67 : decode cX9_fewestLaid 67 = .ok (.iinc 5 1, 3) := by decide +kernel
theorem dX9_fewestLaid_70 : decode cX9_fewestLaid 70 = .ok (.goto (-51), 3) := by decide +kernel
theorem dX9_fewestLaid_73 : decode cX9_fewestLaid 73 = .ok (.iload_n 3, 1) := by decide +kernel
theorem dX9_fewestLaid_74 : decode cX9_fewestLaid 74 = .ok (.ireturn, 1) := by decide +kernel
theorem dX9_isReached_0 : decode cX9_isReached 0 = .ok (.iconst 1, 1) := by decide +kernel
theorem dX9_isReached_1 : decode cX9_isReached 1 = .ok (.istore_n 3, 1) := by decide +kernel
theorem dX9_isReached_2 : decode cX9_isReached 2 = .ok (.iload_n 3, 1) := by decide +kernel
theorem dX9_isReached_3 : decode cX9_isReached 3 = .ok (.iconst 1, 1) := by decide +kernel
theorem dX9_isReached_4 : decode cX9_isReached 4 = .ok (.aload_n 0, 1) := by decide +kernel
theorem dX9_isReached_5 : decode cX9_isReached 5 = .ok (.iload_n 1, 1) := by decide +kernel
theorem dX9_isReached_6 : decode cX9_isReached 6 = .ok (.invokevirtual 242, 3) := by decide +kernel
theorem dX9_isReached_9 : decode cX9_isReached 9 = .ok (.ishl, 1) := by decide +kernel
theorem dX9_isReached_10 : decode cX9_isReached 10 = .ok (.if_icmp .ge 30, 3) := by decide +kernel
theorem dX9_isReached_13 : decode cX9_isReached 13 = .ok (.aload_n 0, 1) := by decide +kernel
theorem dX9_isReached_14 : decode cX9_isReached 14 = .ok (.getfield 39, 3) := by decide +kernel
theorem dX9_isReached_17 : decode cX9_isReached 17 = .ok (.bipush 120, 2) := by decide +kernel
theorem dX9_isReached_19 : decode cX9_isReached 19 = .ok (.iload_n 3, 1) := by decide +kernel
theorem dX9_isReached_20 : decode cX9_isReached 20 = .ok (.imul, 1) := by decide +kernel
theorem dX9_isReached_21 : decode cX9_isReached 21 = .ok (.aload_n 0, 1) := by decide +kernel
theorem dX9_isReached_22 : decode cX9_isReached 22 = .ok (.getfield 36, 3) := by decide +kernel
theorem dX9_isReached_25 : decode cX9_isReached 25 = .ok (.iload_n 2, 1) := by decide +kernel
theorem dX9_isReached_26 : decode cX9_isReached 26 = .ok (.iaload, 1) := by decide +kernel
theorem dX9_isReached_27 : decode cX9_isReached 27 = .ok (.iadd, 1) := by decide +kernel
theorem dX9_isReached_28 : decode cX9_isReached 28 = .ok (.baload, 1) := by decide +kernel
theorem dX9_isReached_29 : decode cX9_isReached 29 = .ok (.ifCond .eq 5, 3) := by decide +kernel
theorem dX9_isReached_32 : decode cX9_isReached 32 = .ok (.iconst 1, 1) := by decide +kernel
theorem dX9_isReached_33 : decode cX9_isReached 33 = .ok (.ireturn, 1) := by decide +kernel
theorem dX9_isReached_34 : decode cX9_isReached 34 = .ok (.iinc 3 1, 3) := by decide +kernel
theorem dX9_isReached_37 : decode cX9_isReached 37 = .ok (.goto (-35), 3) := by decide +kernel
theorem dX9_isReached_40 : decode cX9_isReached 40 = .ok (.iconst 0, 1) := by decide +kernel
theorem dX9_isReached_41 : decode cX9_isReached 41 = .ok (.ireturn, 1) := by decide +kernel
theorem dX9_noPlayer_0 : decode cX9_noPlayer 0 = .ok (.aload_n 0, 1) := by decide +kernel
theorem dX9_noPlayer_1 : decode cX9_noPlayer 1 = .ok (.iload_n 1, 1) := by decide +kernel
theorem dX9_noPlayer_2 : decode cX9_noPlayer 2 = .ok (.iconst 0, 1) := by decide +kernel
theorem dX9_noPlayer_3 : decode cX9_noPlayer 3 = .ok (.aload_n 0, 1) := by decide +kernel
theorem dX9_noPlayer_4 : decode cX9_noPlayer 4 = .ok (.getfield 17, 3) := by decide +kernel
theorem dX9_noPlayer_7 : decode cX9_noPlayer 7 = .ok (.iconst 1, 1) := by decide +kernel
theorem dX9_noPlayer_8 : decode cX9_noPlayer 8 = .ok (.iaload, 1) := by decide +kernel
theorem dX9_noPlayer_9 : decode cX9_noPlayer 9 = .ok (.iconst 1, 1) := by decide +kernel
theorem dX9_noPlayer_10 : decode cX9_noPlayer 10 = .ok (.isub, 1) := by decide +kernel
theorem dX9_noPlayer_11 : decode cX9_noPlayer 11 = .ok (.invokestatic 79, 3) := by decide +kernel
theorem dX9_noPlayer_14 : decode cX9_noPlayer 14 = .ok (.ifCond .ne 7, 3) := by decide +kernel
theorem dX9_noPlayer_17 : decode cX9_noPlayer 17 = .ok (.iconst 1, 1) := by decide +kernel
theorem dX9_noPlayer_18 : decode cX9_noPlayer 18 = .ok (.goto 4, 3) := by decide +kernel
theorem dX9_noPlayer_21 : decode cX9_noPlayer 21 = .ok (.iconst 0, 1) := by decide +kernel
theorem dX9_noPlayer_22 : decode cX9_noPlayer 22 = .ok (.iconst 1, 1) := by decide +kernel
theorem dX9_noPlayer_23 : decode cX9_noPlayer 23 = .ok (.invokevirtual 185, 3) := by decide +kernel
theorem dX9_noPlayer_26 : decode cX9_noPlayer 26 = .ok (.ireturn, 1) := by decide +kernel
theorem dX9_noElement_0 : decode cX9_noElement 0 = .ok (.aload_n 0, 1) := by decide +kernel
theorem dX9_noElement_1 : decode cX9_noElement 1 = .ok (.iload_n 1, 1) := by decide +kernel
theorem dX9_noElement_2 : decode cX9_noElement 2 = .ok (.aload_n 0, 1) := by decide +kernel
theorem dX9_noElement_3 : decode cX9_noElement 3 = .ok (.getfield 17, 3) := by decide +kernel
theorem dX9_noElement_6 : decode cX9_noElement 6 = .ok (.iconst 0, 1) := by decide +kernel
theorem dX9_noElement_7 : decode cX9_noElement 7 = .ok (.iaload, 1) := by decide +kernel
theorem dX9_noElement_8 : decode cX9_noElement 8 = .ok (.invokestatic 153, 3) := by decide +kernel
theorem dX9_noElement_11 : decode cX9_noElement 11 = .ok (.ifCond .ne 7, 3) := by decide +kernel
theorem dX9_noElement_14 : decode cX9_noElement 14 = .ok (.iconst 1, 1) := by decide +kernel
theorem dX9_noElement_15 : decode cX9_noElement 15 = .ok (.goto 4, 3) := by decide +kernel
theorem dX9_noElement_18 : decode cX9_noElement 18 = .ok (.iconst 0, 1) := by decide +kernel
theorem dX9_noElement_19 : decode cX9_noElement 19 = .ok (.iload_n 2, 1) := by decide +kernel
theorem dX9_noElement_20 : decode cX9_noElement 20 = .ok (.invokevirtual 185, 3) := by decide +kernel
theorem dX9_noElement_23 : decode cX9_noElement 23 = .ok (.ireturn, 1) := by decide +kernel
theorem dX9_told_0 : decode cX9_told 0 = .ok (.iload_n 1, 1) := by decide +kernel
theorem dX9_told_1 : decode cX9_told 1 = .ok (.iconst 3, 1) := by decide +kernel
theorem dX9_told_2 : decode cX9_told 2 = .ok (.if_icmp .ne 23, 3) := by decide +kernel
theorem dX9_told_5 : decode cX9_told 5 = .ok (.aload_n 0, 1) := by decide +kernel
theorem dX9_told_6 : decode cX9_told 6 = .ok (.invokevirtual 248, 3) := by decide +kernel
theorem dX9_told_9 : decode cX9_told 9 = .ok (.ifCond .eq 7, 3) := by decide +kernel
theorem dX9_told_12 : decode cX9_told 12 = .ok (.iconst (-1), 1) := by decide +kernel
theorem dX9_told_13 : decode cX9_told 13 = .ok (.goto 43, 3) := by decide +kernel
theorem dX9_told_16 : decode cX9_told 16 = .ok (.aload_n 0, 1) := by decide +kernel
theorem dX9_told_17 : decode cX9_told 17 = .ok (.getfield 17, 3) := by decide +kernel
theorem dX9_told_20 : decode cX9_told 20 = .ok (.iconst 3, 1) := by decide +kernel
theorem dX9_told_21 : decode cX9_told 21 = .ok (.iaload, 1) := by decide +kernel
theorem dX9_told_22 : decode cX9_told 22 = .ok (.goto 34, 3) := by decide +kernel
theorem dX9_told_25 : decode cX9_told 25 = .ok (.iload_n 1, 1) := by decide +kernel
theorem dX9_told_26 : decode cX9_told 26 = .ok (.iconst 4, 1) := by decide +kernel
theorem dX9_told_27 : decode cX9_told 27 = .ok (.if_icmp .ne 23, 3) := by decide +kernel
theorem dX9_told_30 : decode cX9_told 30 = .ok (.aload_n 0, 1) := by decide +kernel
theorem dX9_told_31 : decode cX9_told 31 = .ok (.invokevirtual 248, 3) := by decide +kernel
theorem dX9_told_34 : decode cX9_told 34 = .ok (.ifCond .eq 7, 3) := by decide +kernel
theorem dX9_told_37 : decode cX9_told 37 = .ok (.iconst (-1), 1) := by decide +kernel
theorem dX9_told_38 : decode cX9_told 38 = .ok (.goto 18, 3) := by decide +kernel
theorem dX9_told_41 : decode cX9_told 41 = .ok (.aload_n 0, 1) := by decide +kernel
theorem dX9_told_42 : decode cX9_told 42 = .ok (.getfield 17, 3) := by decide +kernel
theorem dX9_told_45 : decode cX9_told 45 = .ok (.iconst 4, 1) := by decide +kernel
theorem dX9_told_46 : decode cX9_told 46 = .ok (.iaload, 1) := by decide +kernel
theorem dX9_told_47 : decode cX9_told 47 = .ok (.goto 9, 3) := by decide +kernel
theorem dX9_told_50 : decode cX9_told 50 = .ok (.aload_n 0, 1) := by decide +kernel
theorem dX9_told_51 : decode cX9_told 51 = .ok (.getfield 17, 3) := by decide +kernel
theorem dX9_told_54 : decode cX9_told 54 = .ok (.iload_n 1, 1) := by decide +kernel
theorem dX9_told_55 : decode cX9_told 55 = .ok (.iaload, 1) := by decide +kernel
theorem dX9_told_56 : decode cX9_told 56 = .ok (.ireturn, 1) := by decide +kernel
theorem dX9_state_0 : decode cX9_state 0 = .ok (.aload_n 0, 1) := by decide +kernel
theorem dX9_state_1 : decode cX9_state 1 = .ok (.iconst 0, 1) := by decide +kernel
theorem dX9_state_2 : decode cX9_state 2 = .ok (.putfield 46, 3) := by decide +kernel
theorem dX9_state_5 : decode cX9_state 5 = .ok (.aload_n 0, 1) := by decide +kernel
theorem dX9_state_6 : decode cX9_state 6 = .ok (.iload_n 1, 1) := by decide +kernel
theorem dX9_state_7 : decode cX9_state 7 = .ok (.iconst 0, 1) := by decide +kernel
theorem dX9_state_8 : decode cX9_state 8 = .ok (.bipush 8, 2) := by decide +kernel
theorem dX9_state_10 : decode cX9_state 10 = .ok (.invokestatic 79, 3) := by decide +kernel
theorem dX9_state_13 : decode cX9_state 13 = .ok (.ifCond .ne 7, 3) := by decide +kernel
theorem dX9_state_16 : decode cX9_state 16 = .ok (.iconst 1, 1) := by decide +kernel
theorem dX9_state_17 : decode cX9_state 17 = .ok (.goto 4, 3) := by decide +kernel
theorem dX9_state_20 : decode cX9_state 20 = .ok (.iconst 0, 1) := by decide +kernel
theorem dX9_state_21 : decode cX9_state 21 = .ok (.iconst 1, 1) := by decide +kernel
theorem dX9_state_22 : decode cX9_state 22 = .ok (.invokevirtual 185, 3) := by decide +kernel
theorem dX9_state_25 : decode cX9_state 25 = .ok (.ifCond .eq 7, 3) := by decide +kernel
theorem dX9_state_28 : decode cX9_state 28 = .ok (.iconst 0, 1) := by decide +kernel
theorem dX9_state_29 : decode cX9_state 29 = .ok (.goto 8, 3) := by decide +kernel
theorem dX9_state_32 : decode cX9_state 32 = .ok (.aload_n 0, 1) := by decide +kernel
theorem dX9_state_33 : decode cX9_state 33 = .ok (.iload_n 1, 1) := by decide +kernel
theorem dX9_state_34 : decode cX9_state 34 = .ok (.invokevirtual 251, 3) := by decide +kernel
theorem dX9_state_37 : decode cX9_state 37 = .ok (.ireturn, 1) := by decide +kernel
theorem dX9_player_0 : decode cX9_player 0 = .ok (.aload_n 0, 1) := by decide +kernel
theorem dX9_player_1 : decode cX9_player 1 = .ok (.iconst 0, 1) := by decide +kernel
theorem dX9_player_2 : decode cX9_player 2 = .ok (.putfield 46, 3) := by decide +kernel
theorem dX9_player_5 : decode cX9_player 5 = .ok (.aload_n 0, 1) := by decide +kernel
theorem dX9_player_6 : decode cX9_player 6 = .ok (.iload_n 1, 1) := by decide +kernel
theorem dX9_player_7 : decode cX9_player 7 = .ok (.invokevirtual 254, 3) := by decide +kernel
theorem dX9_player_10 : decode cX9_player 10 = .ok (.ifCond .ne 25, 3) := by decide +kernel
theorem dX9_player_13 : decode cX9_player 13 = .ok (.aload_n 0, 1) := by decide +kernel
theorem dX9_player_14 : decode cX9_player 14 = .ok (.iload_n 2, 1) := by decide +kernel
theorem dX9_player_15 : decode cX9_player 15 = .ok (.iconst 0, 1) := by decide +kernel
theorem dX9_player_16 : decode cX9_player 16 = .ok (.iconst 2, 1) := by decide +kernel
theorem dX9_player_17 : decode cX9_player 17 = .ok (.invokestatic 79, 3) := by decide +kernel
theorem dX9_player_20 : decode cX9_player 20 = .ok (.ifCond .ne 7, 3) := by decide +kernel
theorem dX9_player_23 : decode cX9_player 23 = .ok (.iconst 1, 1) := by decide +kernel
theorem dX9_player_24 : decode cX9_player 24 = .ok (.goto 4, 3) := by decide +kernel
theorem dX9_player_27 : decode cX9_player 27 = .ok (.iconst 0, 1) := by decide +kernel
theorem dX9_player_28 : decode cX9_player 28 = .ok (.iconst 2, 1) := by decide +kernel
theorem dX9_player_29 : decode cX9_player 29 = .ok (.invokevirtual 185, 3) := by decide +kernel
theorem dX9_player_32 : decode cX9_player 32 = .ok (.ifCond .eq 7, 3) := by decide +kernel
theorem dX9_player_35 : decode cX9_player 35 = .ok (.iconst 0, 1) := by decide +kernel
theorem dX9_player_36 : decode cX9_player 36 = .ok (.goto 14, 3) := by decide +kernel
theorem dX9_player_39 : decode cX9_player 39 = .ok (.aload_n 0, 1) := by decide +kernel
theorem dX9_player_40 : decode cX9_player 40 = .ok (.getfield 17, 3) := by decide +kernel
theorem dX9_player_43 : decode cX9_player 43 = .ok (.iload_n 1, 1) := by decide +kernel
theorem dX9_player_44 : decode cX9_player 44 = .ok (.invokestatic 201, 3) := by decide +kernel
theorem dX9_player_47 : decode cX9_player 47 = .ok (.iload_n 2, 1) := by decide +kernel
theorem dX9_player_48 : decode cX9_player 48 = .ok (.iadd, 1) := by decide +kernel
theorem dX9_player_49 : decode cX9_player 49 = .ok (.iaload, 1) := by decide +kernel
theorem dX9_player_50 : decode cX9_player 50 = .ok (.ireturn, 1) := by decide +kernel
theorem dX9_toldCard_0 : decode cX9_toldCard 0 = .ok (.iload_n 3, 1) := by decide +kernel
theorem dX9_toldCard_1 : decode cX9_toldCard 1 = .ok (.ifCond .ne 12, 3) := by decide +kernel
theorem dX9_toldCard_4 : decode cX9_toldCard 4 = .ok (.aload_n 0, 1) := by decide +kernel
theorem dX9_toldCard_5 : decode cX9_toldCard 5 = .ok (.iload_n 1, 1) := by decide +kernel
theorem dX9_toldCard_6 : decode cX9_toldCard 6 = .ok (.iload_n 2, 1) := by decide +kernel
theorem dX9_toldCard_7 : decode cX9_toldCard 7 = .ok (.invokevirtual 221, 3) := by decide +kernel
theorem dX9_toldCard_10 : decode cX9_toldCard 10 = .ok (.goto 23, 3) := by decide +kernel
theorem dX9_toldCard_13 : decode cX9_toldCard 13 = .ok (.iload_n 3, 1) := by decide +kernel
theorem dX9_toldCard_14 : decode cX9_toldCard 14 = .ok (.iconst 1, 1) := by decide +kernel
theorem dX9_toldCard_15 : decode cX9_toldCard 15 = .ok (.if_icmp .ne 12, 3) := by decide +kernel
theorem dX9_toldCard_18 : decode cX9_toldCard 18 = .ok (.aload_n 0, 1) := by decide +kernel
theorem dX9_toldCard_19 : decode cX9_toldCard 19 = .ok (.iload_n 1, 1) := by decide +kernel
theorem dX9_toldCard_20 : decode cX9_toldCard 20 = .ok (.iload_n 2, 1) := by decide +kernel
theorem dX9_toldCard_21 : decode cX9_toldCard 21 = .ok (.invokevirtual 218, 3) := by decide +kernel
theorem dX9_toldCard_24 : decode cX9_toldCard 24 = .ok (.goto 9, 3) := by decide +kernel
theorem dX9_toldCard_27 : decode cX9_toldCard 27 = .ok (.aload_n 0, 1) := by decide +kernel
theorem dX9_toldCard_28 : decode cX9_toldCard 28 = .ok (.iload_n 1, 1) := by decide +kernel
theorem dX9_toldCard_29 : decode cX9_toldCard 29 = .ok (.iload_n 2, 1) := by decide +kernel
theorem dX9_toldCard_30 : decode cX9_toldCard 30 = .ok (.invokevirtual 257, 3) := by decide +kernel
theorem dX9_toldCard_33 : decode cX9_toldCard 33 = .ok (.ireturn, 1) := by decide +kernel
theorem dX9_card_0 : decode cX9_card 0 = .ok (.aload_n 0, 1) := by decide +kernel
theorem dX9_card_1 : decode cX9_card 1 = .ok (.iconst 0, 1) := by decide +kernel
theorem dX9_card_2 : decode cX9_card 2 = .ok (.putfield 46, 3) := by decide +kernel
theorem dX9_card_5 : decode cX9_card 5 = .ok (.aload_n 0, 1) := by decide +kernel
theorem dX9_card_6 : decode cX9_card 6 = .ok (.iload_n 1, 1) := by decide +kernel
theorem dX9_card_7 : decode cX9_card 7 = .ok (.invokevirtual 254, 3) := by decide +kernel
theorem dX9_card_10 : decode cX9_card 10 = .ok (.ifCond .ne 53, 3) := by decide +kernel
theorem dX9_card_13 : decode cX9_card 13 = .ok (.aload_n 0, 1) := by decide +kernel
theorem dX9_card_14 : decode cX9_card 14 = .ok (.iload_n 2, 1) := by decide +kernel
theorem dX9_card_15 : decode cX9_card 15 = .ok (.iconst 0, 1) := by decide +kernel
theorem dX9_card_16 : decode cX9_card 16 = .ok (.aload_n 0, 1) := by decide +kernel
theorem dX9_card_17 : decode cX9_card 17 = .ok (.iload_n 1, 1) := by decide +kernel
theorem dX9_card_18 : decode cX9_card 18 = .ok (.invokevirtual 242, 3) := by decide +kernel
theorem dX9_card_21 : decode cX9_card 21 = .ok (.iconst 1, 1) := by decide +kernel
theorem dX9_card_22 : decode cX9_card 22 = .ok (.isub, 1) := by decide +kernel
theorem dX9_card_23 : decode cX9_card 23 = .ok (.invokestatic 79, 3) := by decide +kernel
theorem dX9_card_26 : decode cX9_card 26 = .ok (.ifCond .ne 7, 3) := by decide +kernel
theorem dX9_card_29 : decode cX9_card 29 = .ok (.iconst 1, 1) := by decide +kernel
theorem dX9_card_30 : decode cX9_card 30 = .ok (.goto 4, 3) := by decide +kernel
theorem dX9_card_33 : decode cX9_card 33 = .ok (.iconst 0, 1) := by decide +kernel
theorem dX9_card_34 : decode cX9_card 34 = .ok (.iconst 2, 1) := by decide +kernel
theorem dX9_card_35 : decode cX9_card 35 = .ok (.invokevirtual 185, 3) := by decide +kernel
theorem dX9_card_38 : decode cX9_card 38 = .ok (.ifCond .ne 25, 3) := by decide +kernel
theorem dX9_card_41 : decode cX9_card 41 = .ok (.aload_n 0, 1) := by decide +kernel
theorem dX9_card_42 : decode cX9_card 42 = .ok (.iload_n 3, 1) := by decide +kernel
theorem dX9_card_43 : decode cX9_card 43 = .ok (.iconst 0, 1) := by decide +kernel
theorem dX9_card_44 : decode cX9_card 44 = .ok (.iconst 2, 1) := by decide +kernel
theorem dX9_card_45 : decode cX9_card 45 = .ok (.invokestatic 79, 3) := by decide +kernel
theorem dX9_card_48 : decode cX9_card 48 = .ok (.ifCond .ne 7, 3) := by decide +kernel
theorem dX9_card_51 : decode cX9_card 51 = .ok (.iconst 1, 1) := by decide +kernel
theorem dX9_card_52 : decode cX9_card 52 = .ok (.goto 4, 3) := by decide +kernel
theorem dX9_card_55 : decode cX9_card 55 = .ok (.iconst 0, 1) := by decide +kernel
theorem dX9_card_56 : decode cX9_card 56 = .ok (.iconst 3, 1) := by decide +kernel
theorem dX9_card_57 : decode cX9_card 57 = .ok (.invokevirtual 185, 3) := by decide +kernel
theorem dX9_card_60 : decode cX9_card 60 = .ok (.ifCond .eq 7, 3) := by decide +kernel
theorem dX9_card_63 : decode cX9_card 63 = .ok (.iconst 0, 1) := by decide +kernel
theorem dX9_card_64 : decode cX9_card 64 = .ok (.goto 10, 3) := by decide +kernel
theorem dX9_card_67 : decode cX9_card 67 = .ok (.aload_n 0, 1) := by decide +kernel
theorem dX9_card_68 : decode cX9_card 68 = .ok (.iload_n 1, 1) := by decide +kernel
theorem dX9_card_69 : decode cX9_card 69 = .ok (.iload_n 2, 1) := by decide +kernel
theorem dX9_card_70 : decode cX9_card 70 = .ok (.iload_n 3, 1) := by decide +kernel
theorem dX9_card_71 : decode cX9_card 71 = .ok (.invokevirtual 260, 3) := by decide +kernel
theorem dX9_card_74 : decode cX9_card 74 = .ok (.ireturn, 1) := by decide +kernel
theorem dX9_bid_0 : decode cX9_bid 0 = .ok (.aload_n 0, 1) := by decide +kernel
theorem dX9_bid_1 : decode cX9_bid 1 = .ok (.iconst 0, 1) := by decide +kernel
theorem dX9_bid_2 : decode cX9_bid 2 = .ok (.putfield 46, 3) := by decide +kernel
theorem dX9_bid_5 : decode cX9_bid 5 = .ok (.aload_n 0, 1) := by decide +kernel
theorem dX9_bid_6 : decode cX9_bid 6 = .ok (.iload_n 1, 1) := by decide +kernel
theorem dX9_bid_7 : decode cX9_bid 7 = .ok (.iconst 0, 1) := by decide +kernel
theorem dX9_bid_8 : decode cX9_bid 8 = .ok (.aload_n 0, 1) := by decide +kernel
theorem dX9_bid_9 : decode cX9_bid 9 = .ok (.getfield 17, 3) := by decide +kernel
theorem dX9_bid_12 : decode cX9_bid 12 = .ok (.iconst 5, 1) := by decide +kernel
theorem dX9_bid_13 : decode cX9_bid 13 = .ok (.iaload, 1) := by decide +kernel
theorem dX9_bid_14 : decode cX9_bid 14 = .ok (.iconst 1, 1) := by decide +kernel
theorem dX9_bid_15 : decode cX9_bid 15 = .ok (.isub, 1) := by decide +kernel
theorem dX9_bid_16 : decode cX9_bid 16 = .ok (.invokestatic 79, 3) := by decide +kernel
theorem dX9_bid_19 : decode cX9_bid 19 = .ok (.ifCond .ne 7, 3) := by decide +kernel
theorem dX9_bid_22 : decode cX9_bid 22 = .ok (.iconst 1, 1) := by decide +kernel
theorem dX9_bid_23 : decode cX9_bid 23 = .ok (.goto 4, 3) := by decide +kernel
theorem dX9_bid_26 : decode cX9_bid 26 = .ok (.iconst 0, 1) := by decide +kernel
theorem dX9_bid_27 : decode cX9_bid 27 = .ok (.iconst 1, 1) := by decide +kernel
theorem dX9_bid_28 : decode cX9_bid 28 = .ok (.invokevirtual 185, 3) := by decide +kernel
theorem dX9_bid_31 : decode cX9_bid 31 = .ok (.ifCond .ne 25, 3) := by decide +kernel
theorem dX9_bid_34 : decode cX9_bid 34 = .ok (.aload_n 0, 1) := by decide +kernel
theorem dX9_bid_35 : decode cX9_bid 35 = .ok (.iload_n 2, 1) := by decide +kernel
theorem dX9_bid_36 : decode cX9_bid 36 = .ok (.iconst 0, 1) := by decide +kernel
theorem dX9_bid_37 : decode cX9_bid 37 = .ok (.iconst 2, 1) := by decide +kernel
theorem dX9_bid_38 : decode cX9_bid 38 = .ok (.invokestatic 79, 3) := by decide +kernel
theorem dX9_bid_41 : decode cX9_bid 41 = .ok (.ifCond .ne 7, 3) := by decide +kernel
theorem dX9_bid_44 : decode cX9_bid 44 = .ok (.iconst 1, 1) := by decide +kernel
theorem dX9_bid_45 : decode cX9_bid 45 = .ok (.goto 4, 3) := by decide +kernel
theorem dX9_bid_48 : decode cX9_bid 48 = .ok (.iconst 0, 1) := by decide +kernel
theorem dX9_bid_49 : decode cX9_bid 49 = .ok (.iconst 2, 1) := by decide +kernel
theorem dX9_bid_50 : decode cX9_bid 50 = .ok (.invokevirtual 185, 3) := by decide +kernel
theorem dX9_bid_53 : decode cX9_bid 53 = .ok (.ifCond .eq 7, 3) := by decide +kernel
theorem dX9_bid_56 : decode cX9_bid 56 = .ok (.iconst 0, 1) := by decide +kernel
theorem dX9_bid_57 : decode cX9_bid 57 = .ok (.goto 9, 3) := by decide +kernel
theorem dX9_bid_60 : decode cX9_bid 60 = .ok (.aload_n 0, 1) := by decide +kernel
theorem dX9_bid_61 : decode cX9_bid 61 = .ok (.iload_n 1, 1) := by decide +kernel
theorem dX9_bid_62 : decode cX9_bid 62 = .ok (.iload_n 2, 1) := by decide +kernel
theorem dX9_bid_63 : decode cX9_bid 63 = .ok (.invokevirtual 204, 3) := by decide +kernel
theorem dX9_bid_66 : decode cX9_bid 66 = .ok (.ireturn, 1) := by decide +kernel
theorem dX9_product_0 : decode cX9_product 0 = .ok (.aload_n 0, 1) := by decide +kernel
theorem dX9_product_1 : decode cX9_product 1 = .ok (.iconst 0, 1) := by decide +kernel
theorem dX9_product_2 : decode cX9_product 2 = .ok (.putfield 46, 3) := by decide +kernel
theorem dX9_product_5 : decode cX9_product 5 = .ok (.aload_n 0, 1) := by decide +kernel
theorem dX9_product_6 : decode cX9_product 6 = .ok (.invokevirtual 263, 3) := by decide +kernel
theorem dX9_product_9 : decode cX9_product 9 = .ok (.ireturn, 1) := by decide +kernel
theorem dX9_productOf_0 : decode cX9_productOf 0 = .ok (.aload_n 0, 1) := by decide +kernel
theorem dX9_productOf_1 : decode cX9_productOf 1 = .ok (.iconst 0, 1) := by decide +kernel
theorem dX9_productOf_2 : decode cX9_productOf 2 = .ok (.putfield 46, 3) := by decide +kernel
theorem dX9_productOf_5 : decode cX9_productOf 5 = .ok (.aload_n 0, 1) := by decide +kernel
theorem dX9_productOf_6 : decode cX9_productOf 6 = .ok (.iload_n 1, 1) := by decide +kernel
theorem dX9_productOf_7 : decode cX9_productOf 7 = .ok (.ifCond .lt 18, 3) := by decide +kernel
theorem dX9_productOf_10 : decode cX9_productOf 10 = .ok (.iload_n 2, 1) := by decide +kernel
theorem dX9_productOf_11 : decode cX9_productOf 11 = .ok (.iload_n 1, 1) := by decide +kernel
theorem dX9_productOf_12 : decode cX9_productOf 12 = .ok (.if_icmp .lt 13, 3) := by decide +kernel
theorem dX9_productOf_15 : decode cX9_productOf 15 = .ok (.iload_n 2, 1) := by decide +kernel
theorem dX9_productOf_16 : decode cX9_productOf 16 = .ok (.aload_n 0, 1) := by decide +kernel
theorem dX9_productOf_17 : decode cX9_productOf 17 = .ok (.getfield 17, 3) := by decide +kernel
theorem dX9_productOf_20 : decode cX9_productOf 20 = .ok (.iconst 5, 1) := by decide +kernel
theorem dX9_productOf_21 : decode cX9_productOf 21 = .ok (.iaload, 1) := by decide +kernel
theorem dX9_productOf_22 : decode cX9_productOf 22 = .ok (.if_icmp .le 7, 3) := by decide +kernel
theorem dX9_productOf_25 : decode cX9_productOf 25 = .ok (.iconst 1, 1) := by decide +kernel
theorem dX9_productOf_26 : decode cX9_productOf 26 = .ok (.goto 4, 3) := by decide +kernel
theorem dX9_productOf_29 : decode cX9_productOf 29 = .ok (.iconst 0, 1) := by decide +kernel
theorem dX9_productOf_30 : decode cX9_productOf 30 = .ok (.iconst 1, 1) := by decide +kernel
theorem dX9_productOf_31 : decode cX9_productOf 31 = .ok (.invokevirtual 185, 3) := by decide +kernel
theorem dX9_productOf_34 : decode cX9_productOf 34 = .ok (.ifCond .eq 7, 3) := by decide +kernel
theorem dX9_productOf_37 : decode cX9_productOf 37 = .ok (.iconst 0, 1) := by decide +kernel
theorem dX9_productOf_38 : decode cX9_productOf 38 = .ok (.goto 9, 3) := by decide +kernel
theorem dX9_productOf_41 : decode cX9_productOf 41 = .ok (.aload_n 0, 1) := by decide +kernel
theorem dX9_productOf_42 : decode cX9_productOf 42 = .ok (.iload_n 1, 1) := by decide +kernel
theorem dX9_productOf_43 : decode cX9_productOf 43 = .ok (.iload_n 2, 1) := by decide +kernel
theorem dX9_productOf_44 : decode cX9_productOf 44 = .ok (.invokevirtual 207, 3) := by decide +kernel
theorem dX9_productOf_47 : decode cX9_productOf 47 = .ok (.ireturn, 1) := by decide +kernel
theorem dX9_multiply_0 : decode cX9_multiply 0 = .ok (.aload_n 0, 1) := by decide +kernel
theorem dX9_multiply_1 : decode cX9_multiply 1 = .ok (.iconst 0, 1) := by decide +kernel
theorem dX9_multiply_2 : decode cX9_multiply 2 = .ok (.putfield 46, 3) := by decide +kernel
theorem dX9_multiply_5 : decode cX9_multiply 5 = .ok (.aload_n 0, 1) := by decide +kernel
theorem dX9_multiply_6 : decode cX9_multiply 6 = .ok (.iload_n 1, 1) := by decide +kernel
theorem dX9_multiply_7 : decode cX9_multiply 7 = .ok (.iconst 1, 1) := by decide +kernel
theorem dX9_multiply_8 : decode cX9_multiply 8 = .ok (.invokevirtual 266, 3) := by decide +kernel
theorem dX9_multiply_11 : decode cX9_multiply 11 = .ok (.ifCond .ne 12, 3) := by decide +kernel
theorem dX9_multiply_14 : decode cX9_multiply 14 = .ok (.aload_n 0, 1) := by decide +kernel
theorem dX9_multiply_15 : decode cX9_multiply 15 = .ok (.iload_n 2, 1) := by decide +kernel
theorem dX9_multiply_16 : decode cX9_multiply 16 = .ok (.iconst 1, 1) := by decide +kernel
theorem dX9_multiply_17 : decode cX9_multiply 17 = .ok (.invokevirtual 266, 3) := by decide +kernel
theorem dX9_multiply_20 : decode cX9_multiply 20 = .ok (.ifCond .eq 7, 3) := by decide +kernel
theorem dX9_multiply_23 : decode cX9_multiply 23 = .ok (.iconst 0, 1) := by decide +kernel
theorem dX9_multiply_24 : decode cX9_multiply 24 = .ok (.goto 14, 3) := by decide +kernel
theorem dX9_multiply_27 : decode cX9_multiply 27 = .ok (.iload_n 1, 1) := by decide +kernel
theorem dX9_multiply_28 : decode cX9_multiply 28 = .ok (.iload_n 2, 1) := by decide +kernel
theorem dX9_multiply_29 : decode cX9_multiply 29 = .ok (.aload_n 0, 1) := by decide +kernel
theorem dX9_multiply_30 : decode cX9_multiply 30 = .ok (.getfield 17, 3) := by decide +kernel
theorem dX9_multiply_33 : decode cX9_multiply 33 = .ok (.iconst 0, 1) := by decide +kernel
theorem dX9_multiply_34 : decode cX9_multiply 34 = .ok (.iaload, 1) := by decide +kernel
theorem dX9_multiply_35 : decode cX9_multiply 35 = .ok (.invokestatic 58, 3) := by decide +kernel
theorem dX9_multiply_38 : decode cX9_multiply 38 = .ok (.ireturn, 1) := by decide +kernel
theorem dX9_inverse_0 : decode cX9_inverse 0 = .ok (.aload_n 0, 1) := by decide +kernel
theorem dX9_inverse_1 : decode cX9_inverse 1 = .ok (.iconst 0, 1) := by decide +kernel
theorem dX9_inverse_2 : decode cX9_inverse 2 = .ok (.putfield 46, 3) := by decide +kernel
theorem dX9_inverse_5 : decode cX9_inverse 5 = .ok (.aload_n 0, 1) := by decide +kernel
theorem dX9_inverse_6 : decode cX9_inverse 6 = .ok (.iload_n 1, 1) := by decide +kernel
theorem dX9_inverse_7 : decode cX9_inverse 7 = .ok (.iconst 1, 1) := by decide +kernel
theorem dX9_inverse_8 : decode cX9_inverse 8 = .ok (.invokevirtual 266, 3) := by decide +kernel
theorem dX9_inverse_11 : decode cX9_inverse 11 = .ok (.ifCond .eq 7, 3) := by decide +kernel
theorem dX9_inverse_14 : decode cX9_inverse 14 = .ok (.iconst 0, 1) := by decide +kernel
theorem dX9_inverse_15 : decode cX9_inverse 15 = .ok (.goto 13, 3) := by decide +kernel
theorem dX9_inverse_18 : decode cX9_inverse 18 = .ok (.iload_n 1, 1) := by decide +kernel
theorem dX9_inverse_19 : decode cX9_inverse 19 = .ok (.aload_n 0, 1) := by decide +kernel
theorem dX9_inverse_20 : decode cX9_inverse 20 = .ok (.getfield 17, 3) := by decide +kernel
theorem dX9_inverse_23 : decode cX9_inverse 23 = .ok (.iconst 0, 1) := by decide +kernel
theorem dX9_inverse_24 : decode cX9_inverse 24 = .ok (.iaload, 1) := by decide +kernel
theorem dX9_inverse_25 : decode cX9_inverse 25 = .ok (.invokestatic 269, 3) := by decide +kernel
theorem dX9_inverse_28 : decode cX9_inverse 28 = .ok (.ireturn, 1) := by decide +kernel
theorem dX9_order_0 : decode cX9_order 0 = .ok (.aload_n 0, 1) := by decide +kernel
theorem dX9_order_1 : decode cX9_order 1 = .ok (.iconst 0, 1) := by decide +kernel
theorem dX9_order_2 : decode cX9_order 2 = .ok (.putfield 46, 3) := by decide +kernel
theorem dX9_order_5 : decode cX9_order 5 = .ok (.aload_n 0, 1) := by decide +kernel
theorem dX9_order_6 : decode cX9_order 6 = .ok (.iload_n 1, 1) := by decide +kernel
theorem dX9_order_7 : decode cX9_order 7 = .ok (.iconst 1, 1) := by decide +kernel
theorem dX9_order_8 : decode cX9_order 8 = .ok (.invokevirtual 266, 3) := by decide +kernel
theorem dX9_order_11 : decode cX9_order 11 = .ok (.ifCond .eq 7, 3) := by decide +kernel
theorem dX9_order_14 : decode cX9_order 14 = .ok (.iconst 0, 1) := by decide +kernel
theorem dX9_order_15 : decode cX9_order 15 = .ok (.goto 13, 3) := by decide +kernel
theorem dX9_order_18 : decode cX9_order 18 = .ok (.iload_n 1, 1) := by decide +kernel
theorem dX9_order_19 : decode cX9_order 19 = .ok (.aload_n 0, 1) := by decide +kernel
theorem dX9_order_20 : decode cX9_order 20 = .ok (.getfield 17, 3) := by decide +kernel
theorem dX9_order_23 : decode cX9_order 23 = .ok (.iconst 0, 1) := by decide +kernel
theorem dX9_order_24 : decode cX9_order 24 = .ok (.iaload, 1) := by decide +kernel
theorem dX9_order_25 : decode cX9_order 25 = .ok (.invokestatic 224, 3) := by decide +kernel
theorem dX9_order_28 : decode cX9_order 28 = .ok (.ireturn, 1) := by decide +kernel
theorem dX9_reach_0 : decode cX9_reach 0 = .ok (.aload_n 0, 1) := by decide +kernel
theorem dX9_reach_1 : decode cX9_reach 1 = .ok (.iconst 0, 1) := by decide +kernel
theorem dX9_reach_2 : decode cX9_reach 2 = .ok (.putfield 46, 3) := by decide +kernel
theorem dX9_reach_5 : decode cX9_reach 5 = .ok (.aload_n 0, 1) := by decide +kernel
theorem dX9_reach_6 : decode cX9_reach 6 = .ok (.iload_n 1, 1) := by decide +kernel
theorem dX9_reach_7 : decode cX9_reach 7 = .ok (.invokevirtual 254, 3) := by decide +kernel
theorem dX9_reach_10 : decode cX9_reach 10 = .ok (.ifCond .eq 5, 3) := by decide +kernel
theorem dX9_reach_13 : decode cX9_reach 13 = .ok (.iconst 0, 1) := by decide +kernel
theorem dX9_reach_14 : decode cX9_reach 14 = .ok (.ireturn, 1) := by decide +kernel
theorem dX9_reach_15 : decode cX9_reach 15 = .ok (.aload_n 0, 1) := by decide +kernel
theorem dX9_reach_16 : decode cX9_reach 16 = .ok (.iload_n 1, 1) := by decide +kernel
theorem dX9_reach_17 : decode cX9_reach 17 = .ok (.aload_n 0, 1) := by decide +kernel
theorem dX9_reach_18 : decode cX9_reach 18 = .ok (.getfield 17, 3) := by decide +kernel
theorem dX9_reach_21 : decode cX9_reach 21 = .ok (.iconst 0, 1) := by decide +kernel
theorem dX9_reach_22 : decode cX9_reach 22 = .ok (.iaload, 1) := by decide +kernel
theorem dX9_reach_23 : decode cX9_reach 23 = .ok (.invokestatic 54, 3) := by decide +kernel
theorem dX9_reach_26 : decode cX9_reach 26 = .ok (.iconst (-1), 1) := by decide +kernel
theorem dX9_reach_27 : decode cX9_reach 27 = .ok (.invokevirtual 272, 3) := by decide +kernel
theorem dX9_reach_30 : decode cX9_reach 30 = .ok (.iconst 0, 1) := by decide +kernel
theorem dX9_reach_31 : decode cX9_reach 31 = .ok (.istore_n 2, 1) := by decide +kernel
theorem dX9_reach_32 : decode cX9_reach 32 = .ok (.iconst 0, 1) := by decide +kernel
theorem dX9_reach_33 : decode cX9_reach 33 = .ok (.istore_n 3, 1) := by decide +kernel
theorem dX9_reach_34 : decode cX9_reach 34 = .ok (.iload_n 3, 1) := by decide +kernel
theorem dX9_reach_35 : decode cX9_reach 35 = .ok (.aload_n 0, 1) := by decide +kernel
theorem dX9_reach_36 : decode cX9_reach 36 = .ok (.getfield 236, 3) := by decide +kernel
theorem dX9_reach_39 : decode cX9_reach 39 = .ok (.if_icmp .ge 31, 3) := by decide +kernel
theorem dX9_reach_42 : decode cX9_reach 42 = .ok (.iload_n 2, 1) := by decide +kernel
theorem dX9_reach_43 : decode cX9_reach 43 = .ok (.aload_n 0, 1) := by decide +kernel
theorem dX9_reach_44 : decode cX9_reach 44 = .ok (.iload_n 1, 1) := by decide +kernel
theorem dX9_reach_45 : decode cX9_reach 45 = .ok (.aload_n 0, 1) := by decide +kernel
theorem dX9_reach_46 : decode cX9_reach 46 = .ok (.getfield 32, 3) := by decide +kernel
theorem dX9_reach_49 : decode cX9_reach 49 = .ok (.iload_n 3, 1) := by decide +kernel
theorem dX9_reach_50 : decode cX9_reach 50 = .ok (.iaload, 1) := by decide +kernel
theorem dX9_reach_51 : decode cX9_reach 51 = .ok (.invokevirtual 276, 3) := by decide +kernel
theorem dX9_reach_54 : decode cX9_reach 54 = .ok (.ifCond .eq 7, 3) := by decide +kernel
theorem dX9_reach_57 : decode cX9_reach 57 = .ok (.iconst 1, 1) := by decide +kernel
theorem dX9_reach_58 : decode cX9_reach 58 = .ok (.goto 4, 3) := by decide +kernel
theorem dX9_reach_61 : decode cX9_reach 61 = .ok (.iconst 0, 1) := by decide +kernel
theorem dX9_reach_62 : decode cX9_reach 62 = .ok (.iadd, 1) := by decide +kernel
theorem dX9_reach_63 : decode cX9_reach 63 = .ok (.istore_n 2, 1) := by decide +kernel
theorem dX9_reach_64 : decode cX9_reach 64 = .ok (.iinc 3 1, 3) := by decide +kernel
theorem dX9_reach_67 : decode cX9_reach 67 = .ok (.goto (-33), 3) := by decide +kernel
theorem dX9_reach_70 : decode cX9_reach 70 = .ok (.iload_n 2, 1) := by decide +kernel
theorem dX9_reach_71 : decode cX9_reach 71 = .ok (.ireturn, 1) := by decide +kernel
theorem dX9_reaches_0 : decode cX9_reaches 0 = .ok (.aload_n 0, 1) := by decide +kernel
theorem dX9_reaches_1 : decode cX9_reaches 1 = .ok (.iconst 0, 1) := by decide +kernel
theorem dX9_reaches_2 : decode cX9_reaches 2 = .ok (.putfield 46, 3) := by decide +kernel
theorem dX9_reaches_5 : decode cX9_reaches 5 = .ok (.aload_n 0, 1) := by decide +kernel
theorem dX9_reaches_6 : decode cX9_reaches 6 = .ok (.iload_n 1, 1) := by decide +kernel
theorem dX9_reaches_7 : decode cX9_reaches 7 = .ok (.invokevirtual 254, 3) := by decide +kernel
theorem dX9_reaches_10 : decode cX9_reaches 10 = .ok (.ifCond .ne 12, 3) := by decide +kernel
theorem dX9_reaches_13 : decode cX9_reaches 13 = .ok (.aload_n 0, 1) := by decide +kernel
theorem dX9_reaches_14 : decode cX9_reaches 14 = .ok (.iload_n 2, 1) := by decide +kernel
theorem dX9_reaches_15 : decode cX9_reaches 15 = .ok (.iconst 2, 1) := by decide +kernel
theorem dX9_reaches_16 : decode cX9_reaches 16 = .ok (.invokevirtual 266, 3) := by decide +kernel
theorem dX9_reaches_19 : decode cX9_reaches 19 = .ok (.ifCond .eq 5, 3) := by decide +kernel
theorem dX9_reaches_22 : decode cX9_reaches 22 = .ok (.iconst 0, 1) := by decide +kernel
theorem dX9_reaches_23 : decode cX9_reaches 23 = .ok (.ireturn, 1) := by decide +kernel
theorem dX9_reaches_24 : decode cX9_reaches 24 = .ok (.aload_n 0, 1) := by decide +kernel
theorem dX9_reaches_25 : decode cX9_reaches 25 = .ok (.iload_n 1, 1) := by decide +kernel
theorem dX9_reaches_26 : decode cX9_reaches 26 = .ok (.aload_n 0, 1) := by decide +kernel
theorem dX9_reaches_27 : decode cX9_reaches 27 = .ok (.getfield 17, 3) := by decide +kernel
theorem dX9_reaches_30 : decode cX9_reaches 30 = .ok (.iconst 0, 1) := by decide +kernel
theorem dX9_reaches_31 : decode cX9_reaches 31 = .ok (.iaload, 1) := by decide +kernel
theorem dX9_reaches_32 : decode cX9_reaches 32 = .ok (.invokestatic 54, 3) := by decide +kernel
theorem dX9_reaches_35 : decode cX9_reaches 35 = .ok (.iconst (-1), 1) := by decide +kernel
theorem dX9_reaches_36 : decode cX9_reaches 36 = .ok (.invokevirtual 272, 3) := by decide +kernel
theorem dX9_reaches_39 : decode cX9_reaches 39 = .ok (.aload_n 0, 1) := by decide +kernel
theorem dX9_reaches_40 : decode cX9_reaches 40 = .ok (.iload_n 1, 1) := by decide +kernel
theorem dX9_reaches_41 : decode cX9_reaches 41 = .ok (.iload_n 2, 1) := by decide +kernel
theorem dX9_reaches_42 : decode cX9_reaches 42 = .ok (.invokevirtual 276, 3) := by decide +kernel
theorem dX9_reaches_45 : decode cX9_reaches 45 = .ok (.ireturn, 1) := by decide +kernel
theorem dX9_generated_0 : decode cX9_generated 0 = .ok (.aload_n 0, 1) := by decide +kernel
theorem dX9_generated_1 : decode cX9_generated 1 = .ok (.iconst 0, 1) := by decide +kernel
theorem dX9_generated_2 : decode cX9_generated 2 = .ok (.putfield 46, 3) := by decide +kernel
theorem dX9_generated_5 : decode cX9_generated 5 = .ok (.aload_n 0, 1) := by decide +kernel
theorem dX9_generated_6 : decode cX9_generated 6 = .ok (.iload_n 1, 1) := by decide +kernel
theorem dX9_generated_7 : decode cX9_generated 7 = .ok (.invokevirtual 254, 3) := by decide +kernel
theorem dX9_generated_10 : decode cX9_generated 10 = .ok (.ifCond .eq 5, 3) := by decide +kernel
theorem dX9_generated_13 : decode cX9_generated 13 = .ok (.iconst 0, 1) := by decide +kernel
theorem dX9_generated_14 : decode cX9_generated 14 = .ok (.ireturn, 1) := by decide +kernel
theorem dX9_generated_15 : decode cX9_generated 15 = .ok (.aload_n 0, 1) := by decide +kernel
theorem dX9_generated_16 : decode cX9_generated 16 = .ok (.invokevirtual 239, 3) := by decide +kernel
theorem dX9_generated_19 : decode cX9_generated 19 = .ok (.iconst 0, 1) := by decide +kernel
theorem dX9_generated_20 : decode cX9_generated 20 = .ok (.istore_n 2, 1) := by decide +kernel
theorem dX9_generated_21 : decode cX9_generated 21 = .ok (.iload_n 2, 1) := by decide +kernel
theorem dX9_generated_22 : decode cX9_generated 22 = .ok (.bipush 120, 2) := by decide +kernel
theorem dX9_generated_24 : decode cX9_generated 24 = .ok (.if_icmp .ge 16, 3) := by decide +kernel
theorem dX9_generated_27 : decode cX9_generated 27 = .ok (.aload_n 0, 1) := by decide +kernel
theorem dX9_generated_28 : decode cX9_generated 28 = .ok (.getfield 39, 3) := by decide +kernel
theorem dX9_generated_31 : decode cX9_generated 31 = .ok (.iload_n 2, 1) := by decide +kernel
theorem dX9_generated_32 : decode cX9_generated 32 = .ok (.iconst 0, 1) := by decide +kernel
theorem dX9_generated_33 : decode cX9_generated 33 = .ok (.bastore, 1) := by decide +kernel
theorem dX9_generated_34 : decode cX9_generated 34 = .ok (.iinc 2 1, 3) := by decide +kernel
theorem dX9_generated_37 : decode cX9_generated 37 = .ok (.goto (-16), 3) := by decide +kernel
theorem dX9_generated_40 : decode cX9_generated 40 = .ok (.aload_n 0, 1) := by decide +kernel
theorem dX9_generated_41 : decode cX9_generated 41 = .ok (.getfield 43, 3) := by decide +kernel
theorem dX9_generated_44 : decode cX9_generated 44 = .ok (.iconst 0, 1) := by decide +kernel
theorem dX9_generated_45 : decode cX9_generated 45 = .ok (.aload_n 0, 1) := by decide +kernel
theorem dX9_generated_46 : decode cX9_generated 46 = .ok (.getfield 233, 3) := by decide +kernel
theorem dX9_generated_49 : decode cX9_generated 49 = .ok (.invokestatic 54, 3) := by decide +kernel
theorem dX9_generated_52 : decode cX9_generated 52 = .ok (.iastore, 1) := by decide +kernel
theorem dX9_generated_53 : decode cX9_generated 53 = .ok (.aload_n 0, 1) := by decide +kernel
theorem dX9_generated_54 : decode cX9_generated 54 = .ok (.getfield 39, 3) := by decide +kernel
theorem dX9_generated_57 : decode cX9_generated 57 = .ok (.aload_n 0, 1) := by decide +kernel
theorem dX9_generated_58 : decode cX9_generated 58 = .ok (.getfield 36, 3) := by decide +kernel
theorem dX9_generated_61 : decode cX9_generated 61 = .ok (.aload_n 0, 1) := by decide +kernel
theorem dX9_generated_62 : decode cX9_generated 62 = .ok (.getfield 43, 3) := by decide +kernel
theorem dX9_generated_65 : decode cX9_generated 65 = .ok (.iconst 0, 1) := by decide +kernel
theorem dX9_generated_66 : decode cX9_generated 66 = .ok (.iaload, 1) := by decide +kernel
theorem dX9_generated_67 : decode cX9_generated 67 = .ok (.iaload, 1) := by decide +kernel
theorem dX9_generated_68 : decode cX9_generated 68 = .ok (.iconst 1, 1) := by decide +kernel
theorem dX9_generated_69 : decode cX9_generated 69 = .ok (.bastore, 1) := by decide +kernel
theorem dX9_generated_70 : decode cX9_generated 70 = .ok (.iconst 1, 1) := by decide +kernel
theorem dX9_generated_71 : decode cX9_generated 71 = .ok (.istore_n 2, 1) := by decide +kernel
theorem dX9_generated_72 : decode cX9_generated 72 = .ok (.iconst 0, 1) := by decide +kernel
theorem dX9_generated_73 : decode cX9_generated 73 = .ok (.istore_n 3, 1) := by decide +kernel
theorem dX9_generated_74 : decode cX9_generated 74 = .ok (.iload_n 3, 1) := by decide +kernel
theorem dX9_generated_75 : decode cX9_generated 75 = .ok (.iload_n 2, 1) := by decide +kernel
theorem dX9_generated_76 : decode cX9_generated 76 = .ok (.if_icmp .ge 92, 3) := by decide +kernel
theorem dX9_generated_79 : decode cX9_generated 79 = .ok (.iconst 0, 1) := by decide +kernel
theorem dX9_generated_80 : decode cX9_generated 80 = .ok (.istore 4, 2) := by decide +kernel
theorem dX9_generated_82 : decode cX9_generated 82 = .ok (.iload 4, 2) := by decide +kernel
theorem dX9_generated_84 : decode cX9_generated 84 = .ok (.aload_n 0, 1) := by decide +kernel
theorem dX9_generated_85 : decode cX9_generated 85 = .ok (.iload_n 1, 1) := by decide +kernel
theorem dX9_generated_86 : decode cX9_generated 86 = .ok (.invokevirtual 242, 3) := by decide +kernel
theorem dX9_generated_89 : decode cX9_generated 89 = .ok (.if_icmp .ge 73, 3) := by decide +kernel
theorem dX9_generated_92 : decode cX9_generated 92 = .ok (.aload_n 0, 1) := by decide +kernel
theorem dX9_generated_93 : decode cX9_generated 93 = .ok (.getfield 43, 3) := by decide +kernel
theorem dX9_generated_96 : decode cX9_generated 96 = .ok (.iload_n 3, 1) := by decide +kernel
theorem dX9_generated_97 : decode cX9_generated 97 = .ok (.iaload, 1) := by decide +kernel
theorem dX9_generated_98 : decode cX9_generated 98 = .ok (.aload_n 0, 1) := by decide +kernel
theorem dX9_generated_99 : decode cX9_generated 99 = .ok (.iload_n 1, 1) := by decide +kernel
theorem dX9_generated_100 : decode cX9_generated 100 = .ok (.iload 4, 2) := by decide +kernel
theorem dX9_generated_102 : decode cX9_generated 102 = .ok (.invokevirtual 221, 3) := by decide +kernel
theorem dX9_generated_105 : decode cX9_generated 105 = .ok (.aload_n 0, 1) := by decide +kernel
theorem dX9_generated_106 : decode cX9_generated 106 = .ok (.getfield 233, 3) := by decide +kernel
theorem dX9_generated_109 : decode cX9_generated 109 = .ok (.invokestatic 58, 3) := by decide +kernel
theorem dX9_generated_112 : decode cX9_generated 112 = .ok (.istore 5, 2) := by decide +kernel
theorem dX9_generated_114 : decode cX9_generated 114 = .ok (.aload_n 0, 1) := by decide +kernel
theorem dX9_generated_115 : decode cX9_generated 115 = .ok (.getfield 39, 3) := by decide +kernel
theorem dX9_generated_118 : decode cX9_generated 118 = .ok (.aload_n 0, 1) := by decide +kernel
theorem dX9_generated_119 : decode cX9_generated 119 = .ok (.getfield 36, 3) := by decide +kernel
theorem dX9_generated_122 : decode cX9_generated 122 = .ok (.iload 5, 2) := by decide +kernel
theorem dX9_generated_124 : decode cX9_generated 124 = .ok (.iaload, 1) := by decide +kernel
theorem dX9_generated_125 : decode cX9_generated 125 = .ok (.baload, 1) := by decide +kernel
theorem dX9_generated_126 : decode cX9_generated 126 = .ok (.ifCond .eq 6, 3) := by decide +kernel
theorem dX9_generated_129 : decode cX9_generated 129 = .ok (.goto 27, 3) := by decide +kernel
theorem dX9_generated_132 : decode cX9_generated 132 = .ok (.aload_n 0, 1) := by decide +kernel
theorem dX9_generated_133 : decode cX9_generated 133 = .ok (.getfield 39, 3) := by decide +kernel
theorem dX9_generated_136 : decode cX9_generated 136 = .ok (.aload_n 0, 1) := by decide +kernel
theorem dX9_generated_137 : decode cX9_generated 137 = .ok (.getfield 36, 3) := by decide +kernel
theorem dX9_generated_140 : decode cX9_generated 140 = .ok (.iload 5, 2) := by decide +kernel
theorem dX9_generated_142 : decode cX9_generated 142 = .ok (.iaload, 1) := by decide +kernel
theorem dX9_generated_143 : decode cX9_generated 143 = .ok (.iconst 1, 1) := by decide +kernel
theorem dX9_generated_144 : decode cX9_generated 144 = .ok (.bastore, 1) := by decide +kernel
theorem dX9_generated_145 : decode cX9_generated 145 = .ok (.aload_n 0, 1) := by decide +kernel
theorem dX9_generated_146 : decode cX9_generated 146 = .ok (.getfield 43, 3) := by decide +kernel
theorem dX9_generated_149 : decode cX9_generated 149 = .ok (.iload_n 2, 1) := by decide +kernel
theorem dX9_generated_150 : decode cX9_generated 150 = .ok (.iload 5, 2) := by decide +kernel
theorem dX9_generated_152 : decode cX9_generated 152 = .ok (.iastore, 1) := by decide +kernel
theorem dX9_generated_153 : decode cX9_generated 153 = .ok (.iinc 2 1, 3) := by decide +kernel
theorem dX9_generated_156 : decode cX9_generated 156 = .ok (.iinc 4 1, 3) := by decide +kernel
theorem dX9_generated_159 : decode cX9_generated 159 = .ok (.goto (-77), 3) := by decide +kernel
theorem dX9_generated_162 : decode cX9_generated 162 = .ok (.iinc 3 1, 3) := by decide +kernel
theorem dX9_generated_165 : decode cX9_generated 165 = .ok (.goto (-91), 3) := by decide +kernel
theorem dX9_generated_168 : decode cX9_generated 168 = .ok (.iload_n 2, 1) := by decide +kernel
theorem dX9_generated_169 : decode cX9_generated 169 = .ok (.ireturn, 1) := by decide +kernel
theorem dX9_fewestOf_0 : decode cX9_fewestOf 0 = .ok (.aload_n 0, 1) := by decide +kernel
theorem dX9_fewestOf_1 : decode cX9_fewestOf 1 = .ok (.iload_n 1, 1) := by decide +kernel
theorem dX9_fewestOf_2 : decode cX9_fewestOf 2 = .ok (.aload_n 0, 1) := by decide +kernel
theorem dX9_fewestOf_3 : decode cX9_fewestOf 3 = .ok (.invokevirtual 263, 3) := by decide +kernel
theorem dX9_fewestOf_6 : decode cX9_fewestOf 6 = .ok (.iconst (-1), 1) := by decide +kernel
theorem dX9_fewestOf_7 : decode cX9_fewestOf 7 = .ok (.invokevirtual 272, 3) := by decide +kernel
theorem dX9_fewestOf_10 : decode cX9_fewestOf 10 = .ok (.aload_n 0, 1) := by decide +kernel
theorem dX9_fewestOf_11 : decode cX9_fewestOf 11 = .ok (.iload_n 1, 1) := by decide +kernel
theorem dX9_fewestOf_12 : decode cX9_fewestOf 12 = .ok (.iconst 1, 1) := by decide +kernel
theorem dX9_fewestOf_13 : decode cX9_fewestOf 13 = .ok (.invokevirtual 279, 3) := by decide +kernel
theorem dX9_fewestOf_16 : decode cX9_fewestOf 16 = .ok (.ireturn, 1) := by decide +kernel
theorem dX9_fewest_0 : decode cX9_fewest 0 = .ok (.aload_n 0, 1) := by decide +kernel
theorem dX9_fewest_1 : decode cX9_fewest 1 = .ok (.iconst 0, 1) := by decide +kernel
theorem dX9_fewest_2 : decode cX9_fewest 2 = .ok (.putfield 46, 3) := by decide +kernel
theorem dX9_fewest_5 : decode cX9_fewest 5 = .ok (.aload_n 0, 1) := by decide +kernel
theorem dX9_fewest_6 : decode cX9_fewest 6 = .ok (.iload_n 1, 1) := by decide +kernel
theorem dX9_fewest_7 : decode cX9_fewest 7 = .ok (.invokevirtual 254, 3) := by decide +kernel
theorem dX9_fewest_10 : decode cX9_fewest 10 = .ok (.ifCond .eq 7, 3) := by decide +kernel
theorem dX9_fewest_13 : decode cX9_fewest 13 = .ok (.iconst 0, 1) := by decide +kernel
theorem dX9_fewest_14 : decode cX9_fewest 14 = .ok (.goto 8, 3) := by decide +kernel
theorem dX9_fewest_17 : decode cX9_fewest 17 = .ok (.aload_n 0, 1) := by decide +kernel
theorem dX9_fewest_18 : decode cX9_fewest 18 = .ok (.iload_n 1, 1) := by decide +kernel
theorem dX9_fewest_19 : decode cX9_fewest 19 = .ok (.invokevirtual 282, 3) := by decide +kernel
theorem dX9_fewest_22 : decode cX9_fewest 22 = .ok (.ireturn, 1) := by decide +kernel
theorem dX9_cheapest_0 : decode cX9_cheapest 0 = .ok (.aload_n 0, 1) := by decide +kernel
theorem dX9_cheapest_1 : decode cX9_cheapest 1 = .ok (.iconst 0, 1) := by decide +kernel
theorem dX9_cheapest_2 : decode cX9_cheapest 2 = .ok (.putfield 46, 3) := by decide +kernel
theorem dX9_cheapest_5 : decode cX9_cheapest 5 = .ok (.aload_n 0, 1) := by decide +kernel
theorem dX9_cheapest_6 : decode cX9_cheapest 6 = .ok (.iload_n 1, 1) := by decide +kernel
theorem dX9_cheapest_7 : decode cX9_cheapest 7 = .ok (.invokevirtual 254, 3) := by decide +kernel
theorem dX9_cheapest_10 : decode cX9_cheapest 10 = .ok (.ifCond .eq 5, 3) := by decide +kernel
theorem dX9_cheapest_13 : decode cX9_cheapest 13 = .ok (.iconst 0, 1) := by decide +kernel
theorem dX9_cheapest_14 : decode cX9_cheapest 14 = .ok (.ireturn, 1) := by decide +kernel
theorem dX9_cheapest_15 : decode cX9_cheapest 15 = .ok (.aload_n 0, 1) := by decide +kernel
theorem dX9_cheapest_16 : decode cX9_cheapest 16 = .ok (.iload_n 1, 1) := by decide +kernel
theorem dX9_cheapest_17 : decode cX9_cheapest 17 = .ok (.aload_n 0, 1) := by decide +kernel
theorem dX9_cheapest_18 : decode cX9_cheapest 18 = .ok (.invokevirtual 263, 3) := by decide +kernel
theorem dX9_cheapest_21 : decode cX9_cheapest 21 = .ok (.iconst (-1), 1) := by decide +kernel
theorem dX9_cheapest_22 : decode cX9_cheapest 22 = .ok (.invokevirtual 272, 3) := by decide +kernel
theorem dX9_cheapest_25 : decode cX9_cheapest 25 = .ok (.iconst (-1), 1) := by decide +kernel
theorem dX9_cheapest_26 : decode cX9_cheapest 26 = .ok (.istore_n 2, 1) := by decide +kernel
theorem dX9_cheapest_27 : decode cX9_cheapest 27 = .ok (.iconst 1, 1) := by decide +kernel
theorem dX9_cheapest_28 : decode cX9_cheapest 28 = .ok (.istore_n 3, 1) := by decide +kernel
theorem dX9_cheapest_29 : decode cX9_cheapest 29 = .ok (.iload_n 3, 1) := by decide +kernel
theorem dX9_cheapest_30 : decode cX9_cheapest 30 = .ok (.iconst 1, 1) := by decide +kernel
theorem dX9_cheapest_31 : decode cX9_cheapest 31 = .ok (.aload_n 0, 1) := by decide +kernel
theorem dX9_cheapest_32 : decode cX9_cheapest 32 = .ok (.iload_n 1, 1) := by decide +kernel
theorem dX9_cheapest_33 : decode cX9_cheapest 33 = .ok (.invokevirtual 242, 3) := by decide +kernel
theorem dX9_cheapest_36 : decode cX9_cheapest 36 = .ok (.ishl, 1) := by decide +kernel
theorem dX9_cheapest_37 : decode cX9_cheapest 37 = .ok (.if_icmp .ge 95, 3) := by decide +kernel
theorem dX9_cheapest_40 : decode cX9_cheapest 40 = .ok (.aload_n 0, 1) := by decide +kernel
theorem dX9_cheapest_41 : decode cX9_cheapest 41 = .ok (.getfield 39, 3) := by decide +kernel
theorem dX9_cheapest_44 : decode cX9_cheapest 44 = .ok (.bipush 120, 2) := by decide +kernel
theorem dX9_cheapest_46 : decode cX9_cheapest 46 = .ok (.iload_n 3, 1) := by decide +kernel
theorem dX9_cheapest_47 : decode cX9_cheapest 47 = .ok (.imul, 1) := by decide +kernel
theorem dX9_cheapest_48 : decode cX9_cheapest 48 = .ok (.aload_n 0, 1) := by decide +kernel
theorem dX9_cheapest_49 : decode cX9_cheapest 49 = .ok (.getfield 36, 3) := by decide +kernel
theorem dX9_cheapest_52 : decode cX9_cheapest 52 = .ok (.aload_n 0, 1) := by decide +kernel
theorem dX9_cheapest_53 : decode cX9_cheapest 53 = .ok (.getfield 233, 3) := by decide +kernel
theorem dX9_cheapest_56 : decode cX9_cheapest 56 = .ok (.invokestatic 54, 3) := by decide +kernel
theorem dX9_cheapest_59 : decode cX9_cheapest 59 = .ok (.iaload, 1) := by decide +kernel
theorem dX9_cheapest_60 : decode cX9_cheapest 60 = .ok (.iadd, 1) := by decide +kernel
theorem dX9_cheapest_61 : decode cX9_cheapest 61 = .ok (.baload, 1) := by decide +kernel
theorem dX9_cheapest_62 : decode cX9_cheapest 62 = .ok (.ifCond .ne 6, 3) := by decide +kernel
theorem dX9_cheapest_65 : decode cX9_cheapest 65 = .ok (.goto 61, 3) := by decide +kernel
theorem dX9_cheapest_68 : decode cX9_cheapest 68 = .ok (.iconst 0, 1) := by decide +kernel
theorem dX9_cheapest_69 : decode cX9_cheapest 69 = .ok (.istore 4, 2) := by decide +kernel
theorem dX9_cheapest_71 : decode cX9_cheapest 71 = .ok (.iconst 0, 1) := by decide +kernel
theorem dX9_cheapest_72 : decode cX9_cheapest 72 = .ok (.istore 5, 2) := by decide +kernel
theorem dX9_cheapest_74 : decode cX9_cheapest 74 = .ok (.iload 5, 2) := by decide +kernel
theorem dX9_cheapest_76 : decode cX9_cheapest 76 = .ok (.aload_n 0, 1) := by decide +kernel
theorem dX9_cheapest_77 : decode cX9_cheapest 77 = .ok (.iload_n 1, 1) := by decide +kernel
theorem dX9_cheapest_78 : decode cX9_cheapest 78 = .ok (.invokevirtual 242, 3) := by decide +kernel
theorem dX9_cheapest_81 : decode cX9_cheapest 81 = .ok (.if_icmp .ge 28, 3) := by decide +kernel
theorem dX9_cheapest_84 : decode cX9_cheapest 84 = .ok (.iload 4, 2) := by decide +kernel
theorem dX9_cheapest_86 : decode cX9_cheapest 86 = .ok (.iload_n 3, 1) := by decide +kernel
theorem dX9_cheapest_87 : decode cX9_cheapest 87 = .ok (.iload 5, 2) := by decide +kernel
theorem dX9_cheapest_89 : decode cX9_cheapest 89 = .ok (.ishr, 1) := by decide +kernel
theorem dX9_cheapest_90 : decode cX9_cheapest 90 = .ok (.iconst 1, 1) := by decide +kernel
theorem dX9_cheapest_91 : decode cX9_cheapest 91 = .ok (.iand, 1) := by decide +kernel
theorem dX9_cheapest_92 : decode cX9_cheapest 92 = .ok (.aload_n 0, 1) := by decide +kernel
theorem dX9_cheapest_93 : decode cX9_cheapest 93 = .ok (.iload_n 1, 1) := by decide +kernel
theorem dX9_cheapest_94 : decode cX9_cheapest 94 = .ok (.iload 5, 2) := by decide +kernel
theorem dX9_cheapest_96 : decode cX9_cheapest 96 = .ok (.invokevirtual 218, 3) := by decide +kernel
theorem dX9_cheapest_99 : decode cX9_cheapest 99 = .ok (.imul, 1) := by decide +kernel
theorem dX9_cheapest_100 : decode cX9_cheapest 100 = .ok (.iadd, 1) := by decide +kernel
theorem dX9_cheapest_101 : decode cX9_cheapest 101 = .ok (.istore 4, 2) := by decide +kernel
theorem dX9_cheapest_103 : decode cX9_cheapest 103 = .ok (.iinc 5 1, 3) := by decide +kernel
theorem dX9_cheapest_106 : decode cX9_cheapest 106 = .ok (.goto (-32), 3) := by decide +kernel
theorem dX9_cheapest_109 : decode cX9_cheapest 109 = .ok (.iload_n 2, 1) := by decide +kernel
theorem dX9_cheapest_110 : decode cX9_cheapest 110 = .ok (.iconst (-1), 1) := by decide +kernel
theorem dX9_cheapest_111 : decode cX9_cheapest 111 = .ok (.if_icmp .ne 8, 3) := by decide +kernel
theorem dX9_cheapest_114 : decode cX9_cheapest 114 = .ok (.iload 4, 2) := by decide +kernel
theorem dX9_cheapest_116 : decode cX9_cheapest 116 = .ok (.goto 9, 3) := by decide +kernel
theorem dX9_cheapest_119 : decode cX9_cheapest 119 = .ok (.iload_n 2, 1) := by decide +kernel
theorem dX9_cheapest_120 : decode cX9_cheapest 120 = .ok (.iload 4, 2) := by decide +kernel
theorem dX9_cheapest_122 : decode cX9_cheapest 122 = .ok (.invokestatic 112, 3) := by decide +kernel
theorem dX9_cheapest_125 : decode cX9_cheapest 125 = .ok (.istore_n 2, 1) := by decide +kernel
theorem dX9_cheapest_126 : decode cX9_cheapest 126 = .ok (.iinc 3 1, 3) := by decide +kernel
theorem dX9_cheapest_129 : decode cX9_cheapest 129 = .ok (.goto (-100), 3) := by decide +kernel
theorem dX9_cheapest_132 : decode cX9_cheapest 132 = .ok (.iload_n 2, 1) := by decide +kernel
theorem dX9_cheapest_133 : decode cX9_cheapest 133 = .ok (.ireturn, 1) := by decide +kernel
theorem dX9_opening_0 : decode cX9_opening 0 = .ok (.aload_n 0, 1) := by decide +kernel
theorem dX9_opening_1 : decode cX9_opening 1 = .ok (.iconst 0, 1) := by decide +kernel
theorem dX9_opening_2 : decode cX9_opening 2 = .ok (.putfield 46, 3) := by decide +kernel
theorem dX9_opening_5 : decode cX9_opening 5 = .ok (.aload_n 0, 1) := by decide +kernel
theorem dX9_opening_6 : decode cX9_opening 6 = .ok (.iload_n 1, 1) := by decide +kernel
theorem dX9_opening_7 : decode cX9_opening 7 = .ok (.invokevirtual 254, 3) := by decide +kernel
theorem dX9_opening_10 : decode cX9_opening 10 = .ok (.ifCond .eq 5, 3) := by decide +kernel
theorem dX9_opening_13 : decode cX9_opening 13 = .ok (.iconst 0, 1) := by decide +kernel
theorem dX9_opening_14 : decode cX9_opening 14 = .ok (.ireturn, 1) := by decide +kernel
theorem dX9_opening_15 : decode cX9_opening 15 = .ok (.aload_n 0, 1) := by decide +kernel
theorem dX9_opening_16 : decode cX9_opening 16 = .ok (.iload_n 1, 1) := by decide +kernel
theorem dX9_opening_17 : decode cX9_opening 17 = .ok (.invokevirtual 282, 3) := by decide +kernel
theorem dX9_opening_20 : decode cX9_opening 20 = .ok (.istore_n 2, 1) := by decide +kernel
theorem dX9_opening_21 : decode cX9_opening 21 = .ok (.iconst 0, 1) := by decide +kernel
theorem dX9_opening_22 : decode cX9_opening 22 = .ok (.istore_n 3, 1) := by decide +kernel
theorem dX9_opening_23 : decode cX9_opening 23 = .ok (.iload_n 3, 1) := by decide +kernel
theorem dX9_opening_24 : decode cX9_opening 24 = .ok (.aload_n 0, 1) := by decide +kernel
theorem dX9_opening_25 : decode cX9_opening 25 = .ok (.iload_n 1, 1) := by decide +kernel
theorem dX9_opening_26 : decode cX9_opening 26 = .ok (.invokevirtual 242, 3) := by decide +kernel
theorem dX9_opening_29 : decode cX9_opening 29 = .ok (.if_icmp .ge 53, 3) := by decide +kernel
theorem dX9_opening_32 : decode cX9_opening 32 = .ok (.iload_n 2, 1) := by decide +kernel
theorem dX9_opening_33 : decode cX9_opening 33 = .ok (.iconst (-1), 1) := by decide +kernel
theorem dX9_opening_34 : decode cX9_opening 34 = .ok (.if_icmp .eq 48, 3) := by decide +kernel
theorem dX9_opening_37 : decode cX9_opening 37 = .ok (.aload_n 0, 1) := by decide +kernel
theorem dX9_opening_38 : decode cX9_opening 38 = .ok (.iload_n 1, 1) := by decide +kernel
theorem dX9_opening_39 : decode cX9_opening 39 = .ok (.aload_n 0, 1) := by decide +kernel
theorem dX9_opening_40 : decode cX9_opening 40 = .ok (.invokevirtual 263, 3) := by decide +kernel
theorem dX9_opening_43 : decode cX9_opening 43 = .ok (.aload_n 0, 1) := by decide +kernel
theorem dX9_opening_44 : decode cX9_opening 44 = .ok (.iload_n 1, 1) := by decide +kernel
theorem dX9_opening_45 : decode cX9_opening 45 = .ok (.iload_n 3, 1) := by decide +kernel
theorem dX9_opening_46 : decode cX9_opening 46 = .ok (.invokevirtual 221, 3) := by decide +kernel
theorem dX9_opening_49 : decode cX9_opening 49 = .ok (.aload_n 0, 1) := by decide +kernel
theorem dX9_opening_50 : decode cX9_opening 50 = .ok (.getfield 17, 3) := by decide +kernel
theorem dX9_opening_53 : decode cX9_opening 53 = .ok (.iconst 0, 1) := by decide +kernel
theorem dX9_opening_54 : decode cX9_opening 54 = .ok (.iaload, 1) := by decide +kernel
theorem dX9_opening_55 : decode cX9_opening 55 = .ok (.invokestatic 58, 3) := by decide +kernel
theorem dX9_opening_58 : decode cX9_opening 58 = .ok (.iload_n 3, 1) := by decide +kernel
theorem dX9_opening_59 : decode cX9_opening 59 = .ok (.invokevirtual 272, 3) := by decide +kernel
theorem dX9_opening_62 : decode cX9_opening 62 = .ok (.aload_n 0, 1) := by decide +kernel
theorem dX9_opening_63 : decode cX9_opening 63 = .ok (.iload_n 1, 1) := by decide +kernel
theorem dX9_opening_64 : decode cX9_opening 64 = .ok (.iconst 0, 1) := by decide +kernel
theorem dX9_opening_65 : decode cX9_opening 65 = .ok (.invokevirtual 279, 3) := by decide +kernel
theorem dX9_opening_68 : decode cX9_opening 68 = .ok (.iload_n 2, 1) := by decide +kernel
theorem dX9_opening_69 : decode cX9_opening 69 = .ok (.iconst 1, 1) := by decide +kernel
theorem dX9_opening_70 : decode cX9_opening 70 = .ok (.isub, 1) := by decide +kernel
theorem dX9_opening_71 : decode cX9_opening 71 = .ok (.if_icmp .ne 5, 3) := by decide +kernel
theorem dX9_opening_74 : decode cX9_opening 74 = .ok (.iload_n 3, 1) := by decide +kernel
theorem dX9_opening_75 : decode cX9_opening 75 = .ok (.ireturn, 1) := by decide +kernel
theorem dX9_opening_76 : decode cX9_opening 76 = .ok (.iinc 3 1, 3) := by decide +kernel
theorem dX9_opening_79 : decode cX9_opening 79 = .ok (.goto (-56), 3) := by decide +kernel
theorem dX9_opening_82 : decode cX9_opening 82 = .ok (.iconst (-1), 1) := by decide +kernel
theorem dX9_opening_83 : decode cX9_opening 83 = .ok (.ireturn, 1) := by decide +kernel
theorem dX9_remember_0 : decode cX9_remember 0 = .ok (.aload_n 0, 1) := by decide +kernel
theorem dX9_remember_1 : decode cX9_remember 1 = .ok (.getfield 285, 3) := by decide +kernel
theorem dX9_remember_4 : decode cX9_remember 4 = .ok (.bipush 8, 2) := by decide +kernel
theorem dX9_remember_6 : decode cX9_remember 6 = .ok (.if_icmp .ne 44, 3) := by decide +kernel
theorem dX9_remember_9 : decode cX9_remember 9 = .ok (.iconst 1, 1) := by decide +kernel
theorem dX9_remember_10 : decode cX9_remember 10 = .ok (.istore_n 1, 1) := by decide +kernel
theorem dX9_remember_11 : decode cX9_remember 11 = .ok (.iload_n 1, 1) := by decide +kernel
theorem dX9_remember_12 : decode cX9_remember 12 = .ok (.bipush 8, 2) := by decide +kernel
theorem dX9_remember_14 : decode cX9_remember 14 = .ok (.if_icmp .ge 26, 3) := by decide +kernel
theorem dX9_remember_17 : decode cX9_remember 17 = .ok (.aload_n 0, 1) := by decide +kernel
theorem dX9_remember_18 : decode cX9_remember 18 = .ok (.getfield 25, 3) := by decide +kernel
theorem dX9_remember_21 : decode cX9_remember 21 = .ok (.iload_n 1, 1) := by decide +kernel
theorem dX9_remember_22 : decode cX9_remember 22 = .ok (.aaload, 1) := by decide +kernel
theorem dX9_remember_23 : decode cX9_remember 23 = .ok (.aload_n 0, 1) := by decide +kernel
theorem dX9_remember_24 : decode cX9_remember 24 = .ok (.getfield 25, 3) := by decide +kernel
theorem dX9_remember_27 : decode cX9_remember 27 = .ok (.iload_n 1, 1) := by decide +kernel
theorem dX9_remember_28 : decode cX9_remember 28 = .ok (.iconst 1, 1) := by decide +kernel
theorem dX9_remember_29 : decode cX9_remember 29 = .ok (.isub, 1) := by decide +kernel
theorem dX9_remember_30 : decode cX9_remember 30 = .ok (.aaload, 1) := by decide +kernel
theorem dX9_remember_31 : decode cX9_remember 31 = .ok (.invokestatic 197, 3) := by decide +kernel
theorem dX9_remember_34 : decode cX9_remember 34 = .ok (.iinc 1 1, 3) := by decide +kernel
theorem dX9_remember_37 : decode cX9_remember 37 = .ok (.goto (-26), 3) := by decide +kernel
theorem dX9_remember_40 : decode cX9_remember 40 = .ok (.aload_n 0, 1) := by decide +kernel
theorem dX9_remember_41 : decode cX9_remember 41 = .ok (.dup, 1) := by decide +kernel
theorem dX9_remember_42 : decode cX9_remember 42 = .ok (.getfield 285, 3) := by decide +kernel
theorem dX9_remember_45 : decode cX9_remember 45 = .ok (.iconst 1, 1) := by decide +kernel
theorem dX9_remember_46 : decode cX9_remember 46 = .ok (.isub, 1) := by decide +kernel
theorem dX9_remember_47 : decode cX9_remember 47 = .ok (.putfield 285, 3) := by decide +kernel
theorem dX9_remember_50 : decode cX9_remember 50 = .ok (.aload_n 0, 1) := by decide +kernel
theorem dX9_remember_51 : decode cX9_remember 51 = .ok (.getfield 17, 3) := by decide +kernel
theorem dX9_remember_54 : decode cX9_remember 54 = .ok (.aload_n 0, 1) := by decide +kernel
theorem dX9_remember_55 : decode cX9_remember 55 = .ok (.getfield 25, 3) := by decide +kernel
theorem dX9_remember_58 : decode cX9_remember 58 = .ok (.aload_n 0, 1) := by decide +kernel
theorem dX9_remember_59 : decode cX9_remember 59 = .ok (.getfield 285, 3) := by decide +kernel
theorem dX9_remember_62 : decode cX9_remember 62 = .ok (.aaload, 1) := by decide +kernel
theorem dX9_remember_63 : decode cX9_remember 63 = .ok (.invokestatic 197, 3) := by decide +kernel
theorem dX9_remember_66 : decode cX9_remember 66 = .ok (.aload_n 0, 1) := by decide +kernel
theorem dX9_remember_67 : decode cX9_remember 67 = .ok (.dup, 1) := by decide +kernel
theorem dX9_remember_68 : decode cX9_remember 68 = .ok (.getfield 285, 3) := by decide +kernel
theorem dX9_remember_71 : decode cX9_remember 71 = .ok (.iconst 1, 1) := by decide +kernel
theorem dX9_remember_72 : decode cX9_remember 72 = .ok (.iadd, 1) := by decide +kernel
theorem dX9_remember_73 : decode cX9_remember 73 = .ok (.putfield 285, 3) := by decide +kernel
theorem dX9_remember_76 : decode cX9_remember 76 = .ok (.return_, 1) := by decide +kernel
theorem dX9_dropCard_0 : decode cX9_dropCard 0 = .ok (.iload_n 1, 1) := by decide +kernel
theorem dX9_dropCard_1 : decode cX9_dropCard 1 = .ok (.invokestatic 201, 3) := by decide +kernel
theorem dX9_dropCard_4 : decode cX9_dropCard 4 = .ok (.istore_n 3, 1) := by decide +kernel
theorem dX9_dropCard_5 : decode cX9_dropCard 5 = .ok (.aload_n 0, 1) := by decide +kernel
theorem dX9_dropCard_6 : decode cX9_dropCard 6 = .ok (.getfield 17, 3) := by decide +kernel
theorem dX9_dropCard_9 : decode cX9_dropCard 9 = .ok (.iload_n 3, 1) := by decide +kernel
theorem dX9_dropCard_10 : decode cX9_dropCard 10 = .ok (.iconst 1, 1) := by decide +kernel
theorem dX9_dropCard_11 : decode cX9_dropCard 11 = .ok (.iadd, 1) := by decide +kernel
theorem dX9_dropCard_12 : decode cX9_dropCard 12 = .ok (.dup2, 1) := by decide +kernel
theorem dX9_dropCard_13 : decode cX9_dropCard 13 = .ok (.iaload, 1) := by decide +kernel
theorem dX9_dropCard_14 : decode cX9_dropCard 14 = .ok (.iconst 1, 1) := by decide +kernel
theorem dX9_dropCard_15 : decode cX9_dropCard 15 = .ok (.isub, 1) := by decide +kernel
theorem dX9_dropCard_16 : decode cX9_dropCard 16 = .ok (.iastore, 1) := by decide +kernel
theorem dX9_dropCard_17 : decode cX9_dropCard 17 = .ok (.iconst 2, 1) := by decide +kernel
theorem dX9_dropCard_18 : decode cX9_dropCard 18 = .ok (.iload_n 2, 1) := by decide +kernel
theorem dX9_dropCard_19 : decode cX9_dropCard 19 = .ok (.imul, 1) := by decide +kernel
theorem dX9_dropCard_20 : decode cX9_dropCard 20 = .ok (.istore 4, 2) := by decide +kernel
theorem dX9_dropCard_22 : decode cX9_dropCard 22 = .ok (.iload 4, 2) := by decide +kernel
theorem dX9_dropCard_24 : decode cX9_dropCard 24 = .ok (.iconst 2, 1) := by decide +kernel
theorem dX9_dropCard_25 : decode cX9_dropCard 25 = .ok (.aload_n 0, 1) := by decide +kernel
theorem dX9_dropCard_26 : decode cX9_dropCard 26 = .ok (.getfield 17, 3) := by decide +kernel
theorem dX9_dropCard_29 : decode cX9_dropCard 29 = .ok (.iload_n 3, 1) := by decide +kernel
theorem dX9_dropCard_30 : decode cX9_dropCard 30 = .ok (.iconst 1, 1) := by decide +kernel
theorem dX9_dropCard_31 : decode cX9_dropCard 31 = .ok (.iadd, 1) := by decide +kernel
theorem dX9_dropCard_32 : decode cX9_dropCard 32 = .ok (.iaload, 1) := by decide +kernel
theorem dX9_dropCard_33 : decode cX9_dropCard 33 = .ok (.imul, 1) := by decide +kernel
theorem dX9_dropCard_34 : decode cX9_dropCard 34 = .ok (.if_icmp .ge 33, 3) := by decide +kernel
theorem dX9_dropCard_37 : decode cX9_dropCard 37 = .ok (.aload_n 0, 1) := by decide +kernel
theorem dX9_dropCard_38 : decode cX9_dropCard 38 = .ok (.getfield 17, 3) := by decide +kernel
theorem dX9_dropCard_41 : decode cX9_dropCard 41 = .ok (.iload_n 3, 1) := by decide +kernel
theorem dX9_dropCard_42 : decode cX9_dropCard 42 = .ok (.iconst 3, 1) := by decide +kernel
theorem dX9_dropCard_43 : decode cX9_dropCard 43 = .ok (.iadd, 1) := by decide +kernel
theorem dX9_dropCard_44 : decode cX9_dropCard 44 = .ok (.iload 4, 2) := by decide +kernel
theorem dX9_dropCard_46 : decode cX9_dropCard 46 = .ok (.iadd, 1) := by decide +kernel
theorem dX9_dropCard_47 : decode cX9_dropCard 47 = .ok (.aload_n 0, 1) := by decide +kernel
theorem dX9_dropCard_48 : decode cX9_dropCard 48 = .ok (.getfield 17, 3) := by decide +kernel
theorem dX9_dropCard_51 : decode cX9_dropCard 51 = .ok (.iload_n 3, 1) := by decide +kernel
theorem dX9_dropCard_52 : decode cX9_dropCard 52 = .ok (.iconst 3, 1) := by decide +kernel
theorem dX9_dropCard_53 : decode cX9_dropCard 53 = .ok (.iadd, 1) := by decide +kernel
theorem dX9_dropCard_54 : decode cX9_dropCard 54 = .ok (.iload 4, 2) := by decide +kernel
theorem dX9_dropCard_56 : decode cX9_dropCard 56 = .ok (.iadd, 1) := by decide +kernel
theorem dX9_dropCard_57 : decode cX9_dropCard 57 = .ok (.iconst 2, 1) := by decide +kernel
theorem dX9_dropCard_58 : decode cX9_dropCard 58 = .ok (.iadd, 1) := by decide +kernel
theorem dX9_dropCard_59 : decode cX9_dropCard 59 = .ok (.iaload, 1) := by decide +kernel
theorem dX9_dropCard_60 : decode cX9_dropCard 60 = .ok (.iastore, 1) := by decide +kernel
theorem dX9_dropCard_61 : decode cX9_dropCard 61 = .ok (.iinc 4 1, 3) := by decide +kernel
theorem dX9_dropCard_64 : decode cX9_dropCard 64 = .ok (.goto (-42), 3) := by decide +kernel
theorem dX9_dropCard_67 : decode cX9_dropCard 67 = .ok (.return_, 1) := by decide +kernel
theorem dX9_payInto_0 : decode cX9_payInto 0 = .ok (.aload_n 0, 1) := by decide +kernel
theorem dX9_payInto_1 : decode cX9_payInto 1 = .ok (.getfield 17, 3) := by decide +kernel
theorem dX9_payInto_4 : decode cX9_payInto 4 = .ok (.iload_n 1, 1) := by decide +kernel
theorem dX9_payInto_5 : decode cX9_payInto 5 = .ok (.invokestatic 201, 3) := by decide +kernel
theorem dX9_payInto_8 : decode cX9_payInto 8 = .ok (.iconst 0, 1) := by decide +kernel
theorem dX9_payInto_9 : decode cX9_payInto 9 = .ok (.iadd, 1) := by decide +kernel
theorem dX9_payInto_10 : decode cX9_payInto 10 = .ok (.ldc_w 288, 3) := by decide +kernel
theorem dX9_payInto_13 : decode cX9_payInto 13 = .ok (.aload_n 0, 1) := by decide +kernel
theorem dX9_payInto_14 : decode cX9_payInto 14 = .ok (.getfield 17, 3) := by decide +kernel
theorem dX9_payInto_17 : decode cX9_payInto 17 = .ok (.iload_n 1, 1) := by decide +kernel
theorem dX9_payInto_18 : decode cX9_payInto 18 = .ok (.invokestatic 201, 3) := by decide +kernel
theorem dX9_payInto_21 : decode cX9_payInto 21 = .ok (.iconst 0, 1) := by decide +kernel
theorem dX9_payInto_22 : decode cX9_payInto 22 = .ok (.iadd, 1) := by decide +kernel
theorem dX9_payInto_23 : decode cX9_payInto 23 = .ok (.iaload, 1) := by decide +kernel
theorem dX9_payInto_24 : decode cX9_payInto 24 = .ok (.iload_n 2, 1) := by decide +kernel
theorem dX9_payInto_25 : decode cX9_payInto 25 = .ok (.iadd, 1) := by decide +kernel
theorem dX9_payInto_26 : decode cX9_payInto 26 = .ok (.invokestatic 112, 3) := by decide +kernel
theorem dX9_payInto_29 : decode cX9_payInto 29 = .ok (.iastore, 1) := by decide +kernel
theorem dX9_payInto_30 : decode cX9_payInto 30 = .ok (.return_, 1) := by decide +kernel
theorem dX9_payPot_0 : decode cX9_payPot 0 = .ok (.aload_n 0, 1) := by decide +kernel
theorem dX9_payPot_1 : decode cX9_payPot 1 = .ok (.getfield 17, 3) := by decide +kernel
theorem dX9_payPot_4 : decode cX9_payPot 4 = .ok (.iload_n 1, 1) := by decide +kernel
theorem dX9_payPot_5 : decode cX9_payPot 5 = .ok (.invokestatic 201, 3) := by decide +kernel
theorem dX9_payPot_8 : decode cX9_payPot 8 = .ok (.iconst 0, 1) := by decide +kernel
theorem dX9_payPot_9 : decode cX9_payPot 9 = .ok (.iadd, 1) := by decide +kernel
theorem dX9_payPot_10 : decode cX9_payPot 10 = .ok (.dup2, 1) := by decide +kernel
theorem dX9_payPot_11 : decode cX9_payPot 11 = .ok (.iaload, 1) := by decide +kernel
theorem dX9_payPot_12 : decode cX9_payPot 12 = .ok (.iload_n 2, 1) := by decide +kernel
theorem dX9_payPot_13 : decode cX9_payPot 13 = .ok (.isub, 1) := by decide +kernel
theorem dX9_payPot_14 : decode cX9_payPot 14 = .ok (.iastore, 1) := by decide +kernel
theorem dX9_payPot_15 : decode cX9_payPot 15 = .ok (.aload_n 0, 1) := by decide +kernel
theorem dX9_payPot_16 : decode cX9_payPot 16 = .ok (.getfield 17, 3) := by decide +kernel
theorem dX9_payPot_19 : decode cX9_payPot 19 = .ok (.bipush 6, 2) := by decide +kernel
theorem dX9_payPot_21 : decode cX9_payPot 21 = .ok (.dup2, 1) := by decide +kernel
theorem dX9_payPot_22 : decode cX9_payPot 22 = .ok (.iaload, 1) := by decide +kernel
theorem dX9_payPot_23 : decode cX9_payPot 23 = .ok (.iload_n 2, 1) := by decide +kernel
theorem dX9_payPot_24 : decode cX9_payPot 24 = .ok (.iadd, 1) := by decide +kernel
theorem dX9_payPot_25 : decode cX9_payPot 25 = .ok (.iastore, 1) := by decide +kernel
theorem dX9_payPot_26 : decode cX9_payPot 26 = .ok (.return_, 1) := by decide +kernel
theorem dX9_nextTurn_0 : decode cX9_nextTurn 0 = .ok (.aload_n 0, 1) := by decide +kernel
theorem dX9_nextTurn_1 : decode cX9_nextTurn 1 = .ok (.getfield 17, 3) := by decide +kernel
theorem dX9_nextTurn_4 : decode cX9_nextTurn 4 = .ok (.iconst 4, 1) := by decide +kernel
theorem dX9_nextTurn_5 : decode cX9_nextTurn 5 = .ok (.aload_n 0, 1) := by decide +kernel
theorem dX9_nextTurn_6 : decode cX9_nextTurn 6 = .ok (.getfield 17, 3) := by decide +kernel
theorem dX9_nextTurn_9 : decode cX9_nextTurn 9 = .ok (.iconst 4, 1) := by decide +kernel
theorem dX9_nextTurn_10 : decode cX9_nextTurn 10 = .ok (.iaload, 1) := by decide +kernel
theorem dX9_nextTurn_11 : decode cX9_nextTurn 11 = .ok (.iconst 1, 1) := by decide +kernel
theorem dX9_nextTurn_12 : decode cX9_nextTurn 12 = .ok (.iadd, 1) := by decide +kernel
theorem dX9_nextTurn_13 : decode cX9_nextTurn 13 = .ok (.aload_n 0, 1) := by decide +kernel
theorem dX9_nextTurn_14 : decode cX9_nextTurn 14 = .ok (.getfield 17, 3) := by decide +kernel
theorem dX9_nextTurn_17 : decode cX9_nextTurn 17 = .ok (.iconst 1, 1) := by decide +kernel
theorem dX9_nextTurn_18 : decode cX9_nextTurn 18 = .ok (.iaload, 1) := by decide +kernel
theorem dX9_nextTurn_19 : decode cX9_nextTurn 19 = .ok (.irem, 1) := by decide +kernel
theorem dX9_nextTurn_20 : decode cX9_nextTurn 20 = .ok (.iastore, 1) := by decide +kernel
theorem dX9_nextTurn_21 : decode cX9_nextTurn 21 = .ok (.return_, 1) := by decide +kernel
theorem dX9_nextLot_0 : decode cX9_nextLot 0 = .ok (.aload_n 0, 1) := by decide +kernel
theorem dX9_nextLot_1 : decode cX9_nextLot 1 = .ok (.getfield 17, 3) := by decide +kernel
theorem dX9_nextLot_4 : decode cX9_nextLot 4 = .ok (.iconst 3, 1) := by decide +kernel
theorem dX9_nextLot_5 : decode cX9_nextLot 5 = .ok (.dup2, 1) := by decide +kernel
theorem dX9_nextLot_6 : decode cX9_nextLot 6 = .ok (.iaload, 1) := by decide +kernel
theorem dX9_nextLot_7 : decode cX9_nextLot 7 = .ok (.iconst 1, 1) := by decide +kernel
theorem dX9_nextLot_8 : decode cX9_nextLot 8 = .ok (.iadd, 1) := by decide +kernel
theorem dX9_nextLot_9 : decode cX9_nextLot 9 = .ok (.iastore, 1) := by decide +kernel
theorem dX9_nextLot_10 : decode cX9_nextLot 10 = .ok (.aload_n 0, 1) := by decide +kernel
theorem dX9_nextLot_11 : decode cX9_nextLot 11 = .ok (.getfield 17, 3) := by decide +kernel
theorem dX9_nextLot_14 : decode cX9_nextLot 14 = .ok (.iconst 5, 1) := by decide +kernel
theorem dX9_nextLot_15 : decode cX9_nextLot 15 = .ok (.iconst 0, 1) := by decide +kernel
theorem dX9_nextLot_16 : decode cX9_nextLot 16 = .ok (.iastore, 1) := by decide +kernel
theorem dX9_nextLot_17 : decode cX9_nextLot 17 = .ok (.aload_n 0, 1) := by decide +kernel
theorem dX9_nextLot_18 : decode cX9_nextLot 18 = .ok (.getfield 17, 3) := by decide +kernel
theorem dX9_nextLot_21 : decode cX9_nextLot 21 = .ok (.bipush 7, 2) := by decide +kernel
theorem dX9_nextLot_23 : decode cX9_nextLot 23 = .ok (.iconst 0, 1) := by decide +kernel
theorem dX9_nextLot_24 : decode cX9_nextLot 24 = .ok (.iastore, 1) := by decide +kernel
theorem dX9_nextLot_25 : decode cX9_nextLot 25 = .ok (.aload_n 0, 1) := by decide +kernel
theorem dX9_nextLot_26 : decode cX9_nextLot 26 = .ok (.getfield 17, 3) := by decide +kernel
theorem dX9_nextLot_29 : decode cX9_nextLot 29 = .ok (.bipush 6, 2) := by decide +kernel
theorem dX9_nextLot_31 : decode cX9_nextLot 31 = .ok (.iconst 0, 1) := by decide +kernel
theorem dX9_nextLot_32 : decode cX9_nextLot 32 = .ok (.iastore, 1) := by decide +kernel
theorem dX9_nextLot_33 : decode cX9_nextLot 33 = .ok (.return_, 1) := by decide +kernel
theorem dX9_finish_0 : decode cX9_finish 0 = .ok (.aload_n 0, 1) := by decide +kernel
theorem dX9_finish_1 : decode cX9_finish 1 = .ok (.getfield 17, 3) := by decide +kernel
theorem dX9_finish_4 : decode cX9_finish 4 = .ok (.bipush 7, 2) := by decide +kernel
theorem dX9_finish_6 : decode cX9_finish 6 = .ok (.iconst 0, 1) := by decide +kernel
theorem dX9_finish_7 : decode cX9_finish 7 = .ok (.iastore, 1) := by decide +kernel
theorem dX9_finish_8 : decode cX9_finish 8 = .ok (.aload_n 0, 1) := by decide +kernel
theorem dX9_finish_9 : decode cX9_finish 9 = .ok (.getfield 17, 3) := by decide +kernel
theorem dX9_finish_12 : decode cX9_finish 12 = .ok (.iconst 5, 1) := by decide +kernel
theorem dX9_finish_13 : decode cX9_finish 13 = .ok (.iaload, 1) := by decide +kernel
theorem dX9_finish_14 : decode cX9_finish 14 = .ok (.ifCond .le 23, 3) := by decide +kernel
theorem dX9_finish_17 : decode cX9_finish 17 = .ok (.aload_n 0, 1) := by decide +kernel
theorem dX9_finish_18 : decode cX9_finish 18 = .ok (.invokevirtual 263, 3) := by decide +kernel
theorem dX9_finish_21 : decode cX9_finish 21 = .ok (.aload_n 0, 1) := by decide +kernel
theorem dX9_finish_22 : decode cX9_finish 22 = .ok (.getfield 17, 3) := by decide +kernel
theorem dX9_finish_25 : decode cX9_finish 25 = .ok (.iconst 0, 1) := by decide +kernel
theorem dX9_finish_26 : decode cX9_finish 26 = .ok (.iaload, 1) := by decide +kernel
theorem dX9_finish_27 : decode cX9_finish 27 = .ok (.invokestatic 54, 3) := by decide +kernel
theorem dX9_finish_30 : decode cX9_finish 30 = .ok (.if_icmp .ne 7, 3) := by decide +kernel
theorem dX9_finish_33 : decode cX9_finish 33 = .ok (.iconst 1, 1) := by decide +kernel
theorem dX9_finish_34 : decode cX9_finish 34 = .ok (.goto 4, 3) := by decide +kernel
theorem dX9_finish_37 : decode cX9_finish 37 = .ok (.iconst 0, 1) := by decide +kernel
theorem dX9_finish_38 : decode cX9_finish 38 = .ok (.istore_n 2, 1) := by decide +kernel
theorem dX9_finish_39 : decode cX9_finish 39 = .ok (.iload_n 2, 1) := by decide +kernel
theorem dX9_finish_40 : decode cX9_finish 40 = .ok (.ifCond .eq 49, 3) := by decide +kernel
theorem dX9_finish_43 : decode cX9_finish 43 = .ok (.aload_n 0, 1) := by decide +kernel
theorem dX9_finish_44 : decode cX9_finish 44 = .ok (.iload_n 1, 1) := by decide +kernel
theorem dX9_finish_45 : decode cX9_finish 45 = .ok (.aload_n 0, 1) := by decide +kernel
theorem dX9_finish_46 : decode cX9_finish 46 = .ok (.getfield 17, 3) := by decide +kernel
theorem dX9_finish_49 : decode cX9_finish 49 = .ok (.bipush 106, 2) := by decide +kernel
theorem dX9_finish_51 : decode cX9_finish 51 = .ok (.aload_n 0, 1) := by decide +kernel
theorem dX9_finish_52 : decode cX9_finish 52 = .ok (.getfield 17, 3) := by decide +kernel
theorem dX9_finish_55 : decode cX9_finish 55 = .ok (.iconst 3, 1) := by decide +kernel
theorem dX9_finish_56 : decode cX9_finish 56 = .ok (.iaload, 1) := by decide +kernel
theorem dX9_finish_57 : decode cX9_finish 57 = .ok (.iadd, 1) := by decide +kernel
theorem dX9_finish_58 : decode cX9_finish 58 = .ok (.iaload, 1) := by decide +kernel
theorem dX9_finish_59 : decode cX9_finish 59 = .ok (.aload_n 0, 1) := by decide +kernel
theorem dX9_finish_60 : decode cX9_finish 60 = .ok (.getfield 17, 3) := by decide +kernel
theorem dX9_finish_63 : decode cX9_finish 63 = .ok (.bipush 6, 2) := by decide +kernel
theorem dX9_finish_65 : decode cX9_finish 65 = .ok (.iaload, 1) := by decide +kernel
theorem dX9_finish_66 : decode cX9_finish 66 = .ok (.iadd, 1) := by decide +kernel
theorem dX9_finish_67 : decode cX9_finish 67 = .ok (.invokevirtual 289, 3) := by decide +kernel
theorem dX9_finish_70 : decode cX9_finish 70 = .ok (.aload_n 0, 1) := by decide +kernel
theorem dX9_finish_71 : decode cX9_finish 71 = .ok (.getfield 17, 3) := by decide +kernel
theorem dX9_finish_74 : decode cX9_finish 74 = .ok (.iload_n 1, 1) := by decide +kernel
theorem dX9_finish_75 : decode cX9_finish 75 = .ok (.invokestatic 201, 3) := by decide +kernel
theorem dX9_finish_78 : decode cX9_finish 78 = .ok (.iconst 2, 1) := by decide +kernel
theorem dX9_finish_79 : decode cX9_finish 79 = .ok (.iadd, 1) := by decide +kernel
theorem dX9_finish_80 : decode cX9_finish 80 = .ok (.dup2, 1) := by decide +kernel
theorem dX9_finish_81 : decode cX9_finish 81 = .ok (.iaload, 1) := by decide +kernel
theorem dX9_finish_82 : decode cX9_finish 82 = .ok (.iconst 1, 1) := by decide +kernel
theorem dX9_finish_83 : decode cX9_finish 83 = .ok (.iadd, 1) := by decide +kernel
theorem dX9_finish_84 : decode cX9_finish 84 = .ok (.iastore, 1) := by decide +kernel
theorem dX9_finish_85 : decode cX9_finish 85 = .ok (.aload_n 0, 1) := by decide +kernel
theorem dX9_finish_86 : decode cX9_finish 86 = .ok (.invokevirtual 292, 3) := by decide +kernel
theorem dX9_finish_89 : decode cX9_finish 89 = .ok (.aload_n 0, 1) := by decide +kernel
theorem dX9_finish_90 : decode cX9_finish 90 = .ok (.invokevirtual 295, 3) := by decide +kernel
theorem dX9_finish_93 : decode cX9_finish 93 = .ok (.iload_n 2, 1) := by decide +kernel
theorem dX9_finish_94 : decode cX9_finish 94 = .ok (.ifCond .eq 7, 3) := by decide +kernel
theorem dX9_finish_97 : decode cX9_finish 97 = .ok (.iconst 1, 1) := by decide +kernel
theorem dX9_finish_98 : decode cX9_finish 98 = .ok (.goto 4, 3) := by decide +kernel
theorem dX9_finish_101 : decode cX9_finish 101 = .ok (.iconst 0, 1) := by decide +kernel
theorem dX9_finish_102 : decode cX9_finish 102 = .ok (.ireturn, 1) := by decide +kernel
theorem dX9_noCard_0 : decode cX9_noCard 0 = .ok (.aload_n 0, 1) := by decide +kernel
theorem dX9_noCard_1 : decode cX9_noCard 1 = .ok (.iload_n 1, 1) := by decide +kernel
theorem dX9_noCard_2 : decode cX9_noCard 2 = .ok (.iconst 0, 1) := by decide +kernel
theorem dX9_noCard_3 : decode cX9_noCard 3 = .ok (.aload_n 0, 1) := by decide +kernel
theorem dX9_noCard_4 : decode cX9_noCard 4 = .ok (.aload_n 0, 1) := by decide +kernel
theorem dX9_noCard_5 : decode cX9_noCard 5 = .ok (.getfield 17, 3) := by decide +kernel
theorem dX9_noCard_8 : decode cX9_noCard 8 = .ok (.iconst 4, 1) := by decide +kernel
theorem dX9_noCard_9 : decode cX9_noCard 9 = .ok (.iaload, 1) := by decide +kernel
theorem dX9_noCard_10 : decode cX9_noCard 10 = .ok (.invokevirtual 242, 3) := by decide +kernel
theorem dX9_noCard_13 : decode cX9_noCard 13 = .ok (.iconst 1, 1) := by decide +kernel
theorem dX9_noCard_14 : decode cX9_noCard 14 = .ok (.isub, 1) := by decide +kernel
theorem dX9_noCard_15 : decode cX9_noCard 15 = .ok (.invokestatic 79, 3) := by decide +kernel
theorem dX9_noCard_18 : decode cX9_noCard 18 = .ok (.ifCond .ne 7, 3) := by decide +kernel
theorem dX9_noCard_21 : decode cX9_noCard 21 = .ok (.iconst 1, 1) := by decide +kernel
theorem dX9_noCard_22 : decode cX9_noCard 22 = .ok (.goto 4, 3) := by decide +kernel
theorem dX9_noCard_25 : decode cX9_noCard 25 = .ok (.iconst 0, 1) := by decide +kernel
theorem dX9_noCard_26 : decode cX9_noCard 26 = .ok (.iconst 2, 1) := by decide +kernel
theorem dX9_noCard_27 : decode cX9_noCard 27 = .ok (.invokevirtual 185, 3) := by decide +kernel
theorem dX9_noCard_30 : decode cX9_noCard 30 = .ok (.ireturn, 1) := by decide +kernel
theorem dX9_play_0 : decode cX9_play 0 = .ok (.aload_n 0, 1) := by decide +kernel
theorem dX9_play_1 : decode cX9_play 1 = .ok (.iconst 0, 1) := by decide +kernel
theorem dX9_play_2 : decode cX9_play 2 = .ok (.putfield 46, 3) := by decide +kernel
theorem dX9_play_5 : decode cX9_play 5 = .ok (.aload_n 0, 1) := by decide +kernel
theorem dX9_play_6 : decode cX9_play 6 = .ok (.aload_n 0, 1) := by decide +kernel
theorem dX9_play_7 : decode cX9_play 7 = .ok (.invokevirtual 248, 3) := by decide +kernel
theorem dX9_play_10 : decode cX9_play 10 = .ok (.iconst 1, 1) := by decide +kernel
theorem dX9_play_11 : decode cX9_play 11 = .ok (.invokevirtual 185, 3) := by decide +kernel
theorem dX9_play_14 : decode cX9_play 14 = .ok (.ifCond .ne 11, 3) := by decide +kernel
theorem dX9_play_17 : decode cX9_play 17 = .ok (.aload_n 0, 1) := by decide +kernel
theorem dX9_play_18 : decode cX9_play 18 = .ok (.iload_n 1, 1) := by decide +kernel
theorem dX9_play_19 : decode cX9_play 19 = .ok (.invokevirtual 298, 3) := by decide +kernel
theorem dX9_play_22 : decode cX9_play 22 = .ok (.ifCond .eq 5, 3) := by decide +kernel
theorem dX9_play_25 : decode cX9_play 25 = .ok (.iconst 0, 1) := by decide +kernel
theorem dX9_play_26 : decode cX9_play 26 = .ok (.ireturn, 1) := by decide +kernel
theorem dX9_play_27 : decode cX9_play 27 = .ok (.aload_n 0, 1) := by decide +kernel
theorem dX9_play_28 : decode cX9_play 28 = .ok (.invokevirtual 194, 3) := by decide +kernel
theorem dX9_play_31 : decode cX9_play 31 = .ok (.aload_n 0, 1) := by decide +kernel
theorem dX9_play_32 : decode cX9_play 32 = .ok (.getfield 17, 3) := by decide +kernel
theorem dX9_play_35 : decode cX9_play 35 = .ok (.iconst 4, 1) := by decide +kernel
theorem dX9_play_36 : decode cX9_play 36 = .ok (.iaload, 1) := by decide +kernel
theorem dX9_play_37 : decode cX9_play 37 = .ok (.istore_n 2, 1) := by decide +kernel
theorem dX9_play_38 : decode cX9_play 38 = .ok (.aload_n 0, 1) := by decide +kernel
theorem dX9_play_39 : decode cX9_play 39 = .ok (.iload_n 2, 1) := by decide +kernel
theorem dX9_play_40 : decode cX9_play 40 = .ok (.iload_n 1, 1) := by decide +kernel
theorem dX9_play_41 : decode cX9_play 41 = .ok (.invokevirtual 257, 3) := by decide +kernel
theorem dX9_play_44 : decode cX9_play 44 = .ok (.istore_n 3, 1) := by decide +kernel
theorem dX9_play_45 : decode cX9_play 45 = .ok (.bipush 118, 2) := by decide +kernel
theorem dX9_play_47 : decode cX9_play 47 = .ok (.iconst 3, 1) := by decide +kernel
theorem dX9_play_48 : decode cX9_play 48 = .ok (.aload_n 0, 1) := by decide +kernel
theorem dX9_play_49 : decode cX9_play 49 = .ok (.getfield 17, 3) := by decide +kernel
theorem dX9_play_52 : decode cX9_play 52 = .ok (.iconst 5, 1) := by decide +kernel
theorem dX9_play_53 : decode cX9_play 53 = .ok (.iaload, 1) := by decide +kernel
theorem dX9_play_54 : decode cX9_play 54 = .ok (.imul, 1) := by decide +kernel
theorem dX9_play_55 : decode cX9_play 55 = .ok (.iadd, 1) := by decide +kernel
theorem dX9_play_56 : decode cX9_play 56 = .ok (.istore 4, 2) := by decide +kernel
theorem dX9_play_58 : decode cX9_play 58 = .ok (.aload_n 0, 1) := by decide +kernel
theorem dX9_play_59 : decode cX9_play 59 = .ok (.getfield 17, 3) := by decide +kernel
theorem dX9_play_62 : decode cX9_play 62 = .ok (.iconst 5, 1) := by decide +kernel
theorem dX9_play_63 : decode cX9_play 63 = .ok (.iaload, 1) := by decide +kernel
theorem dX9_play_64 : decode cX9_play 64 = .ok (.bipush 20, 2) := by decide +kernel
theorem dX9_play_66 : decode cX9_play 66 = .ok (.if_icmp .eq 18, 3) := by decide +kernel
theorem dX9_play_69 : decode cX9_play 69 = .ok (.aload_n 0, 1) := by decide +kernel
theorem dX9_play_70 : decode cX9_play 70 = .ok (.getfield 17, 3) := by decide +kernel
theorem dX9_play_73 : decode cX9_play 73 = .ok (.iload_n 2, 1) := by decide +kernel
theorem dX9_play_74 : decode cX9_play 74 = .ok (.invokestatic 201, 3) := by decide +kernel
theorem dX9_play_77 : decode cX9_play 77 = .ok (.iconst 0, 1) := by decide +kernel
theorem dX9_play_78 : decode cX9_play 78 = .ok (.iadd, 1) := by decide +kernel
theorem dX9_play_79 : decode cX9_play 79 = .ok (.iaload, 1) := by decide +kernel
theorem dX9_play_80 : decode cX9_play 80 = .ok (.iload_n 3, 1) := by decide +kernel
theorem dX9_play_81 : decode cX9_play 81 = .ok (.if_icmp .ge 5, 3) := by decide +kernel
theorem dX9_play_84 : decode cX9_play 84 = .ok (.iconst (-1), 1) := by decide +kernel
theorem dX9_play_85 : decode cX9_play 85 = .ok (.ireturn, 1) := by decide +kernel
theorem dX9_play_86 : decode cX9_play 86 = .ok (.aload_n 0, 1) := by decide +kernel
theorem dX9_play_87 : decode cX9_play 87 = .ok (.iload_n 2, 1) := by decide +kernel
theorem dX9_play_88 : decode cX9_play 88 = .ok (.iload_n 3, 1) := by decide +kernel
theorem dX9_play_89 : decode cX9_play 89 = .ok (.invokevirtual 301, 3) := by decide +kernel
theorem dX9_play_92 : decode cX9_play 92 = .ok (.aload_n 0, 1) := by decide +kernel
theorem dX9_play_93 : decode cX9_play 93 = .ok (.getfield 17, 3) := by decide +kernel
theorem dX9_play_96 : decode cX9_play 96 = .ok (.iload 4, 2) := by decide +kernel
theorem dX9_play_98 : decode cX9_play 98 = .ok (.iload_n 2, 1) := by decide +kernel
theorem dX9_play_99 : decode cX9_play 99 = .ok (.iastore, 1) := by decide +kernel
theorem dX9_play_100 : decode cX9_play 100 = .ok (.aload_n 0, 1) := by decide +kernel
theorem dX9_play_101 : decode cX9_play 101 = .ok (.getfield 17, 3) := by decide +kernel
theorem dX9_play_104 : decode cX9_play 104 = .ok (.iload 4, 2) := by decide +kernel
theorem dX9_play_106 : decode cX9_play 106 = .ok (.iconst 1, 1) := by decide +kernel
theorem dX9_play_107 : decode cX9_play 107 = .ok (.iadd, 1) := by decide +kernel
theorem dX9_play_108 : decode cX9_play 108 = .ok (.aload_n 0, 1) := by decide +kernel
theorem dX9_play_109 : decode cX9_play 109 = .ok (.iload_n 2, 1) := by decide +kernel
theorem dX9_play_110 : decode cX9_play 110 = .ok (.iload_n 1, 1) := by decide +kernel
theorem dX9_play_111 : decode cX9_play 111 = .ok (.invokevirtual 221, 3) := by decide +kernel
theorem dX9_play_114 : decode cX9_play 114 = .ok (.iastore, 1) := by decide +kernel
theorem dX9_play_115 : decode cX9_play 115 = .ok (.aload_n 0, 1) := by decide +kernel
theorem dX9_play_116 : decode cX9_play 116 = .ok (.getfield 17, 3) := by decide +kernel
theorem dX9_play_119 : decode cX9_play 119 = .ok (.iload 4, 2) := by decide +kernel
theorem dX9_play_121 : decode cX9_play 121 = .ok (.iconst 2, 1) := by decide +kernel
theorem dX9_play_122 : decode cX9_play 122 = .ok (.iadd, 1) := by decide +kernel
theorem dX9_play_123 : decode cX9_play 123 = .ok (.iload_n 3, 1) := by decide +kernel
theorem dX9_play_124 : decode cX9_play 124 = .ok (.iastore, 1) := by decide +kernel
theorem dX9_play_125 : decode cX9_play 125 = .ok (.aload_n 0, 1) := by decide +kernel
theorem dX9_play_126 : decode cX9_play 126 = .ok (.getfield 17, 3) := by decide +kernel
theorem dX9_play_129 : decode cX9_play 129 = .ok (.iconst 5, 1) := by decide +kernel
theorem dX9_play_130 : decode cX9_play 130 = .ok (.dup2, 1) := by decide +kernel
theorem dX9_play_131 : decode cX9_play 131 = .ok (.iaload, 1) := by decide +kernel
theorem dX9_play_132 : decode cX9_play 132 = .ok (.iconst 1, 1) := by decide +kernel
theorem dX9_play_133 : decode cX9_play 133 = .ok (.iadd, 1) := by decide +kernel
theorem dX9_play_134 : decode cX9_play 134 = .ok (.iastore, 1) := by decide +kernel
theorem dX9_play_135 : decode cX9_play 135 = .ok (.aload_n 0, 1) := by decide +kernel
theorem dX9_play_136 : decode cX9_play 136 = .ok (.iload_n 2, 1) := by decide +kernel
theorem dX9_play_137 : decode cX9_play 137 = .ok (.iload_n 1, 1) := by decide +kernel
theorem dX9_play_138 : decode cX9_play 138 = .ok (.invokevirtual 304, 3) := by decide +kernel
theorem dX9_play_141 : decode cX9_play 141 = .ok (.aload_n 0, 1) := by decide +kernel
theorem dX9_play_142 : decode cX9_play 142 = .ok (.iload_n 2, 1) := by decide +kernel
theorem dX9_play_143 : decode cX9_play 143 = .ok (.invokevirtual 307, 3) := by decide +kernel
theorem dX9_play_146 : decode cX9_play 146 = .ok (.ireturn, 1) := by decide +kernel
theorem dX9_cancel_0 : decode cX9_cancel 0 = .ok (.aload_n 0, 1) := by decide +kernel
theorem dX9_cancel_1 : decode cX9_cancel 1 = .ok (.iconst 0, 1) := by decide +kernel
theorem dX9_cancel_2 : decode cX9_cancel 2 = .ok (.putfield 46, 3) := by decide +kernel
theorem dX9_cancel_5 : decode cX9_cancel 5 = .ok (.aload_n 0, 1) := by decide +kernel
theorem dX9_cancel_6 : decode cX9_cancel 6 = .ok (.aload_n 0, 1) := by decide +kernel
theorem dX9_cancel_7 : decode cX9_cancel 7 = .ok (.invokevirtual 248, 3) := by decide +kernel
theorem dX9_cancel_10 : decode cX9_cancel 10 = .ok (.iconst 1, 1) := by decide +kernel
theorem dX9_cancel_11 : decode cX9_cancel 11 = .ok (.invokevirtual 185, 3) := by decide +kernel
theorem dX9_cancel_14 : decode cX9_cancel 14 = .ok (.ifCond .ne 40, 3) := by decide +kernel
theorem dX9_cancel_17 : decode cX9_cancel 17 = .ok (.aload_n 0, 1) := by decide +kernel
theorem dX9_cancel_18 : decode cX9_cancel 18 = .ok (.iload_n 1, 1) := by decide +kernel
theorem dX9_cancel_19 : decode cX9_cancel 19 = .ok (.invokevirtual 298, 3) := by decide +kernel
theorem dX9_cancel_22 : decode cX9_cancel 22 = .ok (.ifCond .ne 32, 3) := by decide +kernel
theorem dX9_cancel_25 : decode cX9_cancel 25 = .ok (.aload_n 0, 1) := by decide +kernel
theorem dX9_cancel_26 : decode cX9_cancel 26 = .ok (.iload_n 2, 1) := by decide +kernel
theorem dX9_cancel_27 : decode cX9_cancel 27 = .ok (.iconst 0, 1) := by decide +kernel
theorem dX9_cancel_28 : decode cX9_cancel 28 = .ok (.aload_n 0, 1) := by decide +kernel
theorem dX9_cancel_29 : decode cX9_cancel 29 = .ok (.getfield 17, 3) := by decide +kernel
theorem dX9_cancel_32 : decode cX9_cancel 32 = .ok (.iconst 5, 1) := by decide +kernel
theorem dX9_cancel_33 : decode cX9_cancel 33 = .ok (.iaload, 1) := by decide +kernel
theorem dX9_cancel_34 : decode cX9_cancel 34 = .ok (.iconst 1, 1) := by decide +kernel
theorem dX9_cancel_35 : decode cX9_cancel 35 = .ok (.isub, 1) := by decide +kernel
theorem dX9_cancel_36 : decode cX9_cancel 36 = .ok (.invokestatic 79, 3) := by decide +kernel
theorem dX9_cancel_39 : decode cX9_cancel 39 = .ok (.ifCond .ne 7, 3) := by decide +kernel
theorem dX9_cancel_42 : decode cX9_cancel 42 = .ok (.iconst 1, 1) := by decide +kernel
theorem dX9_cancel_43 : decode cX9_cancel 43 = .ok (.goto 4, 3) := by decide +kernel
theorem dX9_cancel_46 : decode cX9_cancel 46 = .ok (.iconst 0, 1) := by decide +kernel
theorem dX9_cancel_47 : decode cX9_cancel 47 = .ok (.iconst 2, 1) := by decide +kernel
theorem dX9_cancel_48 : decode cX9_cancel 48 = .ok (.invokevirtual 185, 3) := by decide +kernel
theorem dX9_cancel_51 : decode cX9_cancel 51 = .ok (.ifCond .eq 5, 3) := by decide +kernel
theorem dX9_cancel_54 : decode cX9_cancel 54 = .ok (.iconst 0, 1) := by decide +kernel
theorem dX9_cancel_55 : decode cX9_cancel 55 = .ok (.ireturn, 1) := by decide +kernel
theorem dX9_cancel_56 : decode cX9_cancel 56 = .ok (.aload_n 0, 1) := by decide +kernel
theorem dX9_cancel_57 : decode cX9_cancel 57 = .ok (.invokevirtual 194, 3) := by decide +kernel
theorem dX9_cancel_60 : decode cX9_cancel 60 = .ok (.aload_n 0, 1) := by decide +kernel
theorem dX9_cancel_61 : decode cX9_cancel 61 = .ok (.getfield 17, 3) := by decide +kernel
theorem dX9_cancel_64 : decode cX9_cancel 64 = .ok (.iconst 4, 1) := by decide +kernel
theorem dX9_cancel_65 : decode cX9_cancel 65 = .ok (.iaload, 1) := by decide +kernel
theorem dX9_cancel_66 : decode cX9_cancel 66 = .ok (.istore_n 3, 1) := by decide +kernel
theorem dX9_cancel_67 : decode cX9_cancel 67 = .ok (.aload_n 0, 1) := by decide +kernel
theorem dX9_cancel_68 : decode cX9_cancel 68 = .ok (.iload_n 3, 1) := by decide +kernel
theorem dX9_cancel_69 : decode cX9_cancel 69 = .ok (.iload_n 1, 1) := by decide +kernel
theorem dX9_cancel_70 : decode cX9_cancel 70 = .ok (.invokevirtual 257, 3) := by decide +kernel
theorem dX9_cancel_73 : decode cX9_cancel 73 = .ok (.istore 4, 2) := by decide +kernel
theorem dX9_cancel_75 : decode cX9_cancel 75 = .ok (.aload_n 0, 1) := by decide +kernel
theorem dX9_cancel_76 : decode cX9_cancel 76 = .ok (.iload_n 2, 1) := by decide +kernel
theorem dX9_cancel_77 : decode cX9_cancel 77 = .ok (.iconst 2, 1) := by decide +kernel
theorem dX9_cancel_78 : decode cX9_cancel 78 = .ok (.invokevirtual 204, 3) := by decide +kernel
theorem dX9_cancel_81 : decode cX9_cancel 81 = .ok (.istore 5, 2) := by decide +kernel
theorem dX9_cancel_83 : decode cX9_cancel 83 = .ok (.aload_n 0, 1) := by decide +kernel
theorem dX9_cancel_84 : decode cX9_cancel 84 = .ok (.iload_n 3, 1) := by decide +kernel
theorem dX9_cancel_85 : decode cX9_cancel 85 = .ok (.iload_n 1, 1) := by decide +kernel
theorem dX9_cancel_86 : decode cX9_cancel 86 = .ok (.invokevirtual 221, 3) := by decide +kernel
theorem dX9_cancel_89 : decode cX9_cancel 89 = .ok (.aload_n 0, 1) := by decide +kernel
theorem dX9_cancel_90 : decode cX9_cancel 90 = .ok (.iload_n 2, 1) := by decide +kernel
theorem dX9_cancel_91 : decode cX9_cancel 91 = .ok (.iconst 1, 1) := by decide +kernel
theorem dX9_cancel_92 : decode cX9_cancel 92 = .ok (.invokevirtual 204, 3) := by decide +kernel
theorem dX9_cancel_95 : decode cX9_cancel 95 = .ok (.aload_n 0, 1) := by decide +kernel
theorem dX9_cancel_96 : decode cX9_cancel 96 = .ok (.getfield 17, 3) := by decide +kernel
theorem dX9_cancel_99 : decode cX9_cancel 99 = .ok (.iconst 0, 1) := by decide +kernel
theorem dX9_cancel_100 : decode cX9_cancel 100 = .ok (.iaload, 1) := by decide +kernel
theorem dX9_cancel_101 : decode cX9_cancel 101 = .ok (.invokestatic 269, 3) := by decide +kernel
theorem dX9_cancel_104 : decode cX9_cancel 104 = .ok (.if_icmp .ne 26, 3) := by decide +kernel
theorem dX9_cancel_107 : decode cX9_cancel 107 = .ok (.iload 4, 2) := by decide +kernel
theorem dX9_cancel_109 : decode cX9_cancel 109 = .ok (.iload 5, 2) := by decide +kernel
theorem dX9_cancel_111 : decode cX9_cancel 111 = .ok (.if_icmp .lt 19, 3) := by decide +kernel
theorem dX9_cancel_114 : decode cX9_cancel 114 = .ok (.aload_n 0, 1) := by decide +kernel
theorem dX9_cancel_115 : decode cX9_cancel 115 = .ok (.getfield 17, 3) := by decide +kernel
theorem dX9_cancel_118 : decode cX9_cancel 118 = .ok (.iload_n 3, 1) := by decide +kernel
theorem dX9_cancel_119 : decode cX9_cancel 119 = .ok (.invokestatic 201, 3) := by decide +kernel
theorem dX9_cancel_122 : decode cX9_cancel 122 = .ok (.iconst 0, 1) := by decide +kernel
theorem dX9_cancel_123 : decode cX9_cancel 123 = .ok (.iadd, 1) := by decide +kernel
theorem dX9_cancel_124 : decode cX9_cancel 124 = .ok (.iaload, 1) := by decide +kernel
theorem dX9_cancel_125 : decode cX9_cancel 125 = .ok (.iload 4, 2) := by decide +kernel
theorem dX9_cancel_127 : decode cX9_cancel 127 = .ok (.if_icmp .ge 5, 3) := by decide +kernel
theorem dX9_cancel_130 : decode cX9_cancel 130 = .ok (.iconst (-1), 1) := by decide +kernel
theorem dX9_cancel_131 : decode cX9_cancel 131 = .ok (.ireturn, 1) := by decide +kernel
theorem dX9_cancel_132 : decode cX9_cancel 132 = .ok (.aload_n 0, 1) := by decide +kernel
theorem dX9_cancel_133 : decode cX9_cancel 133 = .ok (.iload_n 3, 1) := by decide +kernel
theorem dX9_cancel_134 : decode cX9_cancel 134 = .ok (.iload 4, 2) := by decide +kernel
theorem dX9_cancel_136 : decode cX9_cancel 136 = .ok (.invokevirtual 301, 3) := by decide +kernel
theorem dX9_cancel_139 : decode cX9_cancel 139 = .ok (.aload_n 0, 1) := by decide +kernel
theorem dX9_cancel_140 : decode cX9_cancel 140 = .ok (.getfield 17, 3) := by decide +kernel
theorem dX9_cancel_143 : decode cX9_cancel 143 = .ok (.bipush 6, 2) := by decide +kernel
theorem dX9_cancel_145 : decode cX9_cancel 145 = .ok (.dup2, 1) := by decide +kernel
theorem dX9_cancel_146 : decode cX9_cancel 146 = .ok (.iaload, 1) := by decide +kernel
theorem dX9_cancel_147 : decode cX9_cancel 147 = .ok (.iload 5, 2) := by decide +kernel
theorem dX9_cancel_149 : decode cX9_cancel 149 = .ok (.isub, 1) := by decide +kernel
theorem dX9_cancel_150 : decode cX9_cancel 150 = .ok (.iastore, 1) := by decide +kernel
theorem dX9_cancel_151 : decode cX9_cancel 151 = .ok (.aload_n 0, 1) := by decide +kernel
theorem dX9_cancel_152 : decode cX9_cancel 152 = .ok (.aload_n 0, 1) := by decide +kernel
theorem dX9_cancel_153 : decode cX9_cancel 153 = .ok (.iload_n 2, 1) := by decide +kernel
theorem dX9_cancel_154 : decode cX9_cancel 154 = .ok (.iconst 0, 1) := by decide +kernel
theorem dX9_cancel_155 : decode cX9_cancel 155 = .ok (.invokevirtual 204, 3) := by decide +kernel
theorem dX9_cancel_158 : decode cX9_cancel 158 = .ok (.iload 5, 2) := by decide +kernel
theorem dX9_cancel_160 : decode cX9_cancel 160 = .ok (.invokevirtual 289, 3) := by decide +kernel
theorem dX9_cancel_163 : decode cX9_cancel 163 = .ok (.aload_n 0, 1) := by decide +kernel
theorem dX9_cancel_164 : decode cX9_cancel 164 = .ok (.getfield 17, 3) := by decide +kernel
theorem dX9_cancel_167 : decode cX9_cancel 167 = .ok (.iconst 5, 1) := by decide +kernel
theorem dX9_cancel_168 : decode cX9_cancel 168 = .ok (.dup2, 1) := by decide +kernel
theorem dX9_cancel_169 : decode cX9_cancel 169 = .ok (.iaload, 1) := by decide +kernel
theorem dX9_cancel_170 : decode cX9_cancel 170 = .ok (.iconst 1, 1) := by decide +kernel
theorem dX9_cancel_171 : decode cX9_cancel 171 = .ok (.isub, 1) := by decide +kernel
theorem dX9_cancel_172 : decode cX9_cancel 172 = .ok (.iastore, 1) := by decide +kernel
theorem dX9_cancel_173 : decode cX9_cancel 173 = .ok (.bipush 118, 2) := by decide +kernel
theorem dX9_cancel_175 : decode cX9_cancel 175 = .ok (.iconst 3, 1) := by decide +kernel
theorem dX9_cancel_176 : decode cX9_cancel 176 = .ok (.iload_n 2, 1) := by decide +kernel
theorem dX9_cancel_177 : decode cX9_cancel 177 = .ok (.imul, 1) := by decide +kernel
theorem dX9_cancel_178 : decode cX9_cancel 178 = .ok (.iadd, 1) := by decide +kernel
theorem dX9_cancel_179 : decode cX9_cancel 179 = .ok (.istore 6, 2) := by decide +kernel
theorem dX9_cancel_181 : decode cX9_cancel 181 = .ok (.iload 6, 2) := by decide +kernel
theorem dX9_cancel_183 : decode cX9_cancel 183 = .ok (.bipush 118, 2) := by decide +kernel
theorem dX9_cancel_185 : decode cX9_cancel 185 = .ok (.iconst 3, 1) := by decide +kernel
theorem dX9_cancel_186 : decode cX9_cancel 186 = .ok (.aload_n 0, 1) := by decide +kernel
theorem dX9_cancel_187 : decode cX9_cancel 187 = .ok (.getfield 17, 3) := by decide +kernel
theorem dX9_cancel_190 : decode cX9_cancel 190 = .ok (.iconst 5, 1) := by decide +kernel
theorem dX9_cancel_191 : decode cX9_cancel 191 = .ok (.iaload, 1) := by decide +kernel
theorem dX9_cancel_192 : decode cX9_cancel 192 = .ok (.imul, 1) := by decide +kernel
theorem dX9_cancel_193 : decode cX9_cancel 193 = .ok (.iadd, 1) := by decide +kernel
theorem dX9_cancel_194 : decode cX9_cancel 194 = .ok (.if_icmp .ge 25, 3) := by decide +kernel
theorem dX9_cancel_197 : decode cX9_cancel 197 = .ok (.aload_n 0, 1) := by decide +kernel
theorem dX9_cancel_198 : decode cX9_cancel 198 = .ok (.getfield 17, 3) := by decide +kernel
theorem dX9_cancel_201 : decode cX9_cancel 201 = .ok (.iload 6, 2) := by decide +kernel
theorem dX9_cancel_203 : decode cX9_cancel 203 = .ok (.aload_n 0, 1) := by decide +kernel
theorem dX9_cancel_204 : decode cX9_cancel 204 = .ok (.getfield 17, 3) := by decide +kernel
theorem dX9_cancel_207 : decode cX9_cancel 207 = .ok (.iload 6, 2) := by decide +kernel
theorem dX9_cancel_209 : decode cX9_cancel 209 = .ok (.iconst 3, 1) := by decide +kernel
theorem dX9_cancel_210 : decode cX9_cancel 210 = .ok (.iadd, 1) := by decide +kernel
theorem dX9_cancel_211 : decode cX9_cancel 211 = .ok (.iaload, 1) := by decide +kernel
theorem dX9_cancel_212 : decode cX9_cancel 212 = .ok (.iastore, 1) := by decide +kernel
theorem dX9_cancel_213 : decode cX9_cancel 213 = .ok (.iinc 6 1, 3) := by decide +kernel
theorem dX9_cancel_216 : decode cX9_cancel 216 = .ok (.goto (-35), 3) := by decide +kernel
theorem dX9_cancel_219 : decode cX9_cancel 219 = .ok (.aload_n 0, 1) := by decide +kernel
theorem dX9_cancel_220 : decode cX9_cancel 220 = .ok (.iload_n 3, 1) := by decide +kernel
theorem dX9_cancel_221 : decode cX9_cancel 221 = .ok (.iload_n 1, 1) := by decide +kernel
theorem dX9_cancel_222 : decode cX9_cancel 222 = .ok (.invokevirtual 304, 3) := by decide +kernel
theorem dX9_cancel_225 : decode cX9_cancel 225 = .ok (.aload_n 0, 1) := by decide +kernel
theorem dX9_cancel_226 : decode cX9_cancel 226 = .ok (.iload_n 3, 1) := by decide +kernel
theorem dX9_cancel_227 : decode cX9_cancel 227 = .ok (.invokevirtual 307, 3) := by decide +kernel
theorem dX9_cancel_230 : decode cX9_cancel 230 = .ok (.ireturn, 1) := by decide +kernel
theorem dX9_pass_0 : decode cX9_pass 0 = .ok (.aload_n 0, 1) := by decide +kernel
theorem dX9_pass_1 : decode cX9_pass 1 = .ok (.iconst 0, 1) := by decide +kernel
theorem dX9_pass_2 : decode cX9_pass 2 = .ok (.putfield 46, 3) := by decide +kernel
theorem dX9_pass_5 : decode cX9_pass 5 = .ok (.aload_n 0, 1) := by decide +kernel
theorem dX9_pass_6 : decode cX9_pass 6 = .ok (.aload_n 0, 1) := by decide +kernel
theorem dX9_pass_7 : decode cX9_pass 7 = .ok (.invokevirtual 248, 3) := by decide +kernel
theorem dX9_pass_10 : decode cX9_pass 10 = .ok (.iconst 1, 1) := by decide +kernel
theorem dX9_pass_11 : decode cX9_pass 11 = .ok (.invokevirtual 185, 3) := by decide +kernel
theorem dX9_pass_14 : decode cX9_pass 14 = .ok (.ifCond .eq 5, 3) := by decide +kernel
theorem dX9_pass_17 : decode cX9_pass 17 = .ok (.iconst 0, 1) := by decide +kernel
theorem dX9_pass_18 : decode cX9_pass 18 = .ok (.ireturn, 1) := by decide +kernel
theorem dX9_pass_19 : decode cX9_pass 19 = .ok (.aload_n 0, 1) := by decide +kernel
theorem dX9_pass_20 : decode cX9_pass 20 = .ok (.invokevirtual 194, 3) := by decide +kernel
theorem dX9_pass_23 : decode cX9_pass 23 = .ok (.aload_n 0, 1) := by decide +kernel
theorem dX9_pass_24 : decode cX9_pass 24 = .ok (.getfield 17, 3) := by decide +kernel
theorem dX9_pass_27 : decode cX9_pass 27 = .ok (.bipush 7, 2) := by decide +kernel
theorem dX9_pass_29 : decode cX9_pass 29 = .ok (.dup2, 1) := by decide +kernel
theorem dX9_pass_30 : decode cX9_pass 30 = .ok (.iaload, 1) := by decide +kernel
theorem dX9_pass_31 : decode cX9_pass 31 = .ok (.iconst 1, 1) := by decide +kernel
theorem dX9_pass_32 : decode cX9_pass 32 = .ok (.iadd, 1) := by decide +kernel
theorem dX9_pass_33 : decode cX9_pass 33 = .ok (.iastore, 1) := by decide +kernel
theorem dX9_pass_34 : decode cX9_pass 34 = .ok (.aload_n 0, 1) := by decide +kernel
theorem dX9_pass_35 : decode cX9_pass 35 = .ok (.getfield 17, 3) := by decide +kernel
theorem dX9_pass_38 : decode cX9_pass 38 = .ok (.bipush 7, 2) := by decide +kernel
theorem dX9_pass_40 : decode cX9_pass 40 = .ok (.iaload, 1) := by decide +kernel
theorem dX9_pass_41 : decode cX9_pass 41 = .ok (.aload_n 0, 1) := by decide +kernel
theorem dX9_pass_42 : decode cX9_pass 42 = .ok (.getfield 17, 3) := by decide +kernel
theorem dX9_pass_45 : decode cX9_pass 45 = .ok (.iconst 1, 1) := by decide +kernel
theorem dX9_pass_46 : decode cX9_pass 46 = .ok (.iaload, 1) := by decide +kernel
theorem dX9_pass_47 : decode cX9_pass 47 = .ok (.if_icmp .ne 7, 3) := by decide +kernel
theorem dX9_pass_50 : decode cX9_pass 50 = .ok (.iconst 1, 1) := by decide +kernel
theorem dX9_pass_51 : decode cX9_pass 51 = .ok (.goto 4, 3) := by decide +kernel
theorem dX9_pass_54 : decode cX9_pass 54 = .ok (.iconst 0, 1) := by decide +kernel
theorem dX9_pass_55 : decode cX9_pass 55 = .ok (.istore_n 1, 1) := by decide +kernel
theorem dX9_pass_56 : decode cX9_pass 56 = .ok (.iload_n 1, 1) := by decide +kernel
theorem dX9_pass_57 : decode cX9_pass 57 = .ok (.ifCond .eq 24, 3) := by decide +kernel
theorem dX9_pass_60 : decode cX9_pass 60 = .ok (.aload_n 0, 1) := by decide +kernel
theorem dX9_pass_61 : decode cX9_pass 61 = .ok (.getfield 17, 3) := by decide +kernel
theorem dX9_pass_64 : decode cX9_pass 64 = .ok (.bipush 8, 2) := by decide +kernel
theorem dX9_pass_66 : decode cX9_pass 66 = .ok (.dup2, 1) := by decide +kernel
theorem dX9_pass_67 : decode cX9_pass 67 = .ok (.iaload, 1) := by decide +kernel
theorem dX9_pass_68 : decode cX9_pass 68 = .ok (.aload_n 0, 1) := by decide +kernel
theorem dX9_pass_69 : decode cX9_pass 69 = .ok (.getfield 17, 3) := by decide +kernel
theorem dX9_pass_72 : decode cX9_pass 72 = .ok (.bipush 6, 2) := by decide +kernel
theorem dX9_pass_74 : decode cX9_pass 74 = .ok (.iaload, 1) := by decide +kernel
theorem dX9_pass_75 : decode cX9_pass 75 = .ok (.iadd, 1) := by decide +kernel
theorem dX9_pass_76 : decode cX9_pass 76 = .ok (.iastore, 1) := by decide +kernel
theorem dX9_pass_77 : decode cX9_pass 77 = .ok (.aload_n 0, 1) := by decide +kernel
theorem dX9_pass_78 : decode cX9_pass 78 = .ok (.invokevirtual 292, 3) := by decide +kernel
theorem dX9_pass_81 : decode cX9_pass 81 = .ok (.aload_n 0, 1) := by decide +kernel
theorem dX9_pass_82 : decode cX9_pass 82 = .ok (.invokevirtual 295, 3) := by decide +kernel
theorem dX9_pass_85 : decode cX9_pass 85 = .ok (.iload_n 1, 1) := by decide +kernel
theorem dX9_pass_86 : decode cX9_pass 86 = .ok (.ifCond .eq 7, 3) := by decide +kernel
theorem dX9_pass_89 : decode cX9_pass 89 = .ok (.iconst 1, 1) := by decide +kernel
theorem dX9_pass_90 : decode cX9_pass 90 = .ok (.goto 4, 3) := by decide +kernel
theorem dX9_pass_93 : decode cX9_pass 93 = .ok (.iconst 0, 1) := by decide +kernel
theorem dX9_pass_94 : decode cX9_pass 94 = .ok (.ireturn, 1) := by decide +kernel
theorem dX9_give_0 : decode cX9_give 0 = .ok (.aload_n 0, 1) := by decide +kernel
theorem dX9_give_1 : decode cX9_give 1 = .ok (.iconst 0, 1) := by decide +kernel
theorem dX9_give_2 : decode cX9_give 2 = .ok (.putfield 46, 3) := by decide +kernel
theorem dX9_give_5 : decode cX9_give 5 = .ok (.aload_n 0, 1) := by decide +kernel
theorem dX9_give_6 : decode cX9_give 6 = .ok (.iload_n 1, 1) := by decide +kernel
theorem dX9_give_7 : decode cX9_give 7 = .ok (.invokevirtual 254, 3) := by decide +kernel
theorem dX9_give_10 : decode cX9_give 10 = .ok (.ifCond .ne 59, 3) := by decide +kernel
theorem dX9_give_13 : decode cX9_give 13 = .ok (.aload_n 0, 1) := by decide +kernel
theorem dX9_give_14 : decode cX9_give 14 = .ok (.iload_n 2, 1) := by decide +kernel
theorem dX9_give_15 : decode cX9_give 15 = .ok (.iconst 2, 1) := by decide +kernel
theorem dX9_give_16 : decode cX9_give 16 = .ok (.invokevirtual 266, 3) := by decide +kernel
theorem dX9_give_19 : decode cX9_give 19 = .ok (.ifCond .ne 50, 3) := by decide +kernel
theorem dX9_give_22 : decode cX9_give 22 = .ok (.aload_n 0, 1) := by decide +kernel
theorem dX9_give_23 : decode cX9_give 23 = .ok (.iload_n 3, 1) := by decide +kernel
theorem dX9_give_24 : decode cX9_give 24 = .ok (.iconst 1, 1) := by decide +kernel
theorem dX9_give_25 : decode cX9_give 25 = .ok (.sipush 999, 3) := by decide +kernel
theorem dX9_give_28 : decode cX9_give 28 = .ok (.invokestatic 79, 3) := by decide +kernel
theorem dX9_give_31 : decode cX9_give 31 = .ok (.ifCond .ne 7, 3) := by decide +kernel
theorem dX9_give_34 : decode cX9_give 34 = .ok (.iconst 1, 1) := by decide +kernel
theorem dX9_give_35 : decode cX9_give 35 = .ok (.goto 4, 3) := by decide +kernel
theorem dX9_give_38 : decode cX9_give 38 = .ok (.iconst 0, 1) := by decide +kernel
theorem dX9_give_39 : decode cX9_give 39 = .ok (.iconst 2, 1) := by decide +kernel
theorem dX9_give_40 : decode cX9_give 40 = .ok (.invokevirtual 185, 3) := by decide +kernel
theorem dX9_give_43 : decode cX9_give 43 = .ok (.ifCond .ne 26, 3) := by decide +kernel
theorem dX9_give_46 : decode cX9_give 46 = .ok (.aload_n 0, 1) := by decide +kernel
theorem dX9_give_47 : decode cX9_give 47 = .ok (.aload_n 0, 1) := by decide +kernel
theorem dX9_give_48 : decode cX9_give 48 = .ok (.iload_n 1, 1) := by decide +kernel
theorem dX9_give_49 : decode cX9_give 49 = .ok (.invokevirtual 242, 3) := by decide +kernel
theorem dX9_give_52 : decode cX9_give 52 = .ok (.bipush 8, 2) := by decide +kernel
theorem dX9_give_54 : decode cX9_give 54 = .ok (.if_icmp .ne 7, 3) := by decide +kernel
theorem dX9_give_57 : decode cX9_give 57 = .ok (.iconst 1, 1) := by decide +kernel
theorem dX9_give_58 : decode cX9_give 58 = .ok (.goto 4, 3) := by decide +kernel
theorem dX9_give_61 : decode cX9_give 61 = .ok (.iconst 0, 1) := by decide +kernel
theorem dX9_give_62 : decode cX9_give 62 = .ok (.iconst 3, 1) := by decide +kernel
theorem dX9_give_63 : decode cX9_give 63 = .ok (.invokevirtual 185, 3) := by decide +kernel
theorem dX9_give_66 : decode cX9_give 66 = .ok (.ifCond .eq 5, 3) := by decide +kernel
theorem dX9_give_69 : decode cX9_give 69 = .ok (.iconst 0, 1) := by decide +kernel
theorem dX9_give_70 : decode cX9_give 70 = .ok (.ireturn, 1) := by decide +kernel
theorem dX9_give_71 : decode cX9_give 71 = .ok (.aload_n 0, 1) := by decide +kernel
theorem dX9_give_72 : decode cX9_give 72 = .ok (.invokevirtual 194, 3) := by decide +kernel
theorem dX9_give_75 : decode cX9_give 75 = .ok (.aload_n 0, 1) := by decide +kernel
theorem dX9_give_76 : decode cX9_give 76 = .ok (.getfield 17, 3) := by decide +kernel
theorem dX9_give_79 : decode cX9_give 79 = .ok (.iload_n 1, 1) := by decide +kernel
theorem dX9_give_80 : decode cX9_give 80 = .ok (.iload_n 2, 1) := by decide +kernel
theorem dX9_give_81 : decode cX9_give 81 = .ok (.iload_n 3, 1) := by decide +kernel
theorem dX9_give_82 : decode cX9_give 82 = .ok (.invokestatic 161, 3) := by decide +kernel
theorem dX9_give_85 : decode cX9_give 85 = .ok (.aload_n 0, 1) := by decide +kernel
theorem dX9_give_86 : decode cX9_give 86 = .ok (.iload_n 1, 1) := by decide +kernel
theorem dX9_give_87 : decode cX9_give 87 = .ok (.invokevirtual 242, 3) := by decide +kernel
theorem dX9_give_90 : decode cX9_give 90 = .ok (.ireturn, 1) := by decide +kernel
theorem dX9_discard_0 : decode cX9_discard 0 = .ok (.aload_n 0, 1) := by decide +kernel
theorem dX9_discard_1 : decode cX9_discard 1 = .ok (.iconst 0, 1) := by decide +kernel
theorem dX9_discard_2 : decode cX9_discard 2 = .ok (.putfield 46, 3) := by decide +kernel
theorem dX9_discard_5 : decode cX9_discard 5 = .ok (.aload_n 0, 1) := by decide +kernel
theorem dX9_discard_6 : decode cX9_discard 6 = .ok (.iload_n 1, 1) := by decide +kernel
theorem dX9_discard_7 : decode cX9_discard 7 = .ok (.invokevirtual 254, 3) := by decide +kernel
theorem dX9_discard_10 : decode cX9_discard 10 = .ok (.ifCond .ne 31, 3) := by decide +kernel
theorem dX9_discard_13 : decode cX9_discard 13 = .ok (.aload_n 0, 1) := by decide +kernel
theorem dX9_discard_14 : decode cX9_discard 14 = .ok (.iload_n 2, 1) := by decide +kernel
theorem dX9_discard_15 : decode cX9_discard 15 = .ok (.iconst 0, 1) := by decide +kernel
theorem dX9_discard_16 : decode cX9_discard 16 = .ok (.aload_n 0, 1) := by decide +kernel
theorem dX9_discard_17 : decode cX9_discard 17 = .ok (.iload_n 1, 1) := by decide +kernel
theorem dX9_discard_18 : decode cX9_discard 18 = .ok (.invokevirtual 242, 3) := by decide +kernel
theorem dX9_discard_21 : decode cX9_discard 21 = .ok (.iconst 1, 1) := by decide +kernel
theorem dX9_discard_22 : decode cX9_discard 22 = .ok (.isub, 1) := by decide +kernel
theorem dX9_discard_23 : decode cX9_discard 23 = .ok (.invokestatic 79, 3) := by decide +kernel
theorem dX9_discard_26 : decode cX9_discard 26 = .ok (.ifCond .ne 7, 3) := by decide +kernel
theorem dX9_discard_29 : decode cX9_discard 29 = .ok (.iconst 1, 1) := by decide +kernel
theorem dX9_discard_30 : decode cX9_discard 30 = .ok (.goto 4, 3) := by decide +kernel
theorem dX9_discard_33 : decode cX9_discard 33 = .ok (.iconst 0, 1) := by decide +kernel
theorem dX9_discard_34 : decode cX9_discard 34 = .ok (.iconst 2, 1) := by decide +kernel
theorem dX9_discard_35 : decode cX9_discard 35 = .ok (.invokevirtual 185, 3) := by decide +kernel
theorem dX9_discard_38 : decode cX9_discard 38 = .ok (.ifCond .eq 5, 3) := by decide +kernel
theorem dX9_discard_41 : decode cX9_discard 41 = .ok (.iconst 0, 1) := by decide +kernel
theorem dX9_discard_42 : decode cX9_discard 42 = .ok (.ireturn, 1) := by decide +kernel
theorem dX9_discard_43 : decode cX9_discard 43 = .ok (.aload_n 0, 1) := by decide +kernel
theorem dX9_discard_44 : decode cX9_discard 44 = .ok (.invokevirtual 194, 3) := by decide +kernel
theorem dX9_discard_47 : decode cX9_discard 47 = .ok (.aload_n 0, 1) := by decide +kernel
theorem dX9_discard_48 : decode cX9_discard 48 = .ok (.iload_n 1, 1) := by decide +kernel
theorem dX9_discard_49 : decode cX9_discard 49 = .ok (.iload_n 2, 1) := by decide +kernel
theorem dX9_discard_50 : decode cX9_discard 50 = .ok (.invokevirtual 221, 3) := by decide +kernel
theorem dX9_discard_53 : decode cX9_discard 53 = .ok (.istore_n 3, 1) := by decide +kernel
theorem dX9_discard_54 : decode cX9_discard 54 = .ok (.aload_n 0, 1) := by decide +kernel
theorem dX9_discard_55 : decode cX9_discard 55 = .ok (.iload_n 1, 1) := by decide +kernel
theorem dX9_discard_56 : decode cX9_discard 56 = .ok (.iload_n 2, 1) := by decide +kernel
theorem dX9_discard_57 : decode cX9_discard 57 = .ok (.invokevirtual 304, 3) := by decide +kernel
theorem dX9_discard_60 : decode cX9_discard 60 = .ok (.iload_n 3, 1) := by decide +kernel
theorem dX9_discard_61 : decode cX9_discard 61 = .ok (.ireturn, 1) := by decide +kernel
theorem dX9_undo_0 : decode cX9_undo 0 = .ok (.aload_n 0, 1) := by decide +kernel
theorem dX9_undo_1 : decode cX9_undo 1 = .ok (.iconst 0, 1) := by decide +kernel
theorem dX9_undo_2 : decode cX9_undo 2 = .ok (.putfield 46, 3) := by decide +kernel
theorem dX9_undo_5 : decode cX9_undo 5 = .ok (.aload_n 0, 1) := by decide +kernel
theorem dX9_undo_6 : decode cX9_undo 6 = .ok (.getfield 285, 3) := by decide +kernel
theorem dX9_undo_9 : decode cX9_undo 9 = .ok (.ifCond .ne 5, 3) := by decide +kernel
theorem dX9_undo_12 : decode cX9_undo 12 = .ok (.iconst (-1), 1) := by decide +kernel
theorem dX9_undo_13 : decode cX9_undo 13 = .ok (.ireturn, 1) := by decide +kernel
theorem dX9_undo_14 : decode cX9_undo 14 = .ok (.aload_n 0, 1) := by decide +kernel
theorem dX9_undo_15 : decode cX9_undo 15 = .ok (.dup, 1) := by decide +kernel
theorem dX9_undo_16 : decode cX9_undo 16 = .ok (.getfield 285, 3) := by decide +kernel
theorem dX9_undo_19 : decode cX9_undo 19 = .ok (.iconst 1, 1) := by decide +kernel
theorem dX9_undo_20 : decode cX9_undo 20 = .ok (.isub, 1) := by decide +kernel
theorem dX9_undo_21 : decode cX9_undo 21 = .ok (.putfield 285, 3) := by decide +kernel
theorem dX9_undo_24 : decode cX9_undo 24 = .ok (.aload_n 0, 1) := by decide +kernel
theorem dX9_undo_25 : decode cX9_undo 25 = .ok (.getfield 25, 3) := by decide +kernel
theorem dX9_undo_28 : decode cX9_undo 28 = .ok (.aload_n 0, 1) := by decide +kernel
theorem dX9_undo_29 : decode cX9_undo 29 = .ok (.getfield 285, 3) := by decide +kernel
theorem dX9_undo_32 : decode cX9_undo 32 = .ok (.aaload, 1) := by decide +kernel
theorem dX9_undo_33 : decode cX9_undo 33 = .ok (.aload_n 0, 1) := by decide +kernel
theorem dX9_undo_34 : decode cX9_undo 34 = .ok (.getfield 17, 3) := by decide +kernel
theorem dX9_undo_37 : decode cX9_undo 37 = .ok (.invokestatic 197, 3) := by decide +kernel
theorem dX9_undo_40 : decode cX9_undo 40 = .ok (.aload_n 0, 1) := by decide +kernel
theorem dX9_undo_41 : decode cX9_undo 41 = .ok (.getfield 285, 3) := by decide +kernel
theorem dX9_undo_44 : decode cX9_undo 44 = .ok (.ireturn, 1) := by decide +kernel
theorem dX9_checksum_0 : decode cX9_checksum 0 = .ok (.aload_n 0, 1) := by decide +kernel
theorem dX9_checksum_1 : decode cX9_checksum 1 = .ok (.iconst 0, 1) := by decide +kernel
theorem dX9_checksum_2 : decode cX9_checksum 2 = .ok (.putfield 46, 3) := by decide +kernel
theorem dX9_checksum_5 : decode cX9_checksum 5 = .ok (.lconst 0, 1) := by decide +kernel
theorem dX9_checksum_6 : decode cX9_checksum 6 = .ok (.lstore_n 1, 1) := by decide +kernel
theorem dX9_checksum_7 : decode cX9_checksum 7 = .ok (.iconst 0, 1) := by decide +kernel
theorem dX9_checksum_8 : decode cX9_checksum 8 = .ok (.istore_n 3, 1) := by decide +kernel
theorem dX9_checksum_9 : decode cX9_checksum 9 = .ok (.iload_n 3, 1) := by decide +kernel
theorem dX9_checksum_10 : decode cX9_checksum 10 = .ok (.bipush 8, 2) := by decide +kernel
theorem dX9_checksum_12 : decode cX9_checksum 12 = .ok (.if_icmp .gt 22, 3) := by decide +kernel
theorem dX9_checksum_15 : decode cX9_checksum 15 = .ok (.ldc2_w 310, 3) := by decide +kernel
theorem dX9_checksum_18 : decode cX9_checksum 18 = .ok (.lload_n 1, 1) := by decide +kernel
theorem dX9_checksum_19 : decode cX9_checksum 19 = .ok (.lmul, 1) := by decide +kernel
theorem dX9_checksum_20 : decode cX9_checksum 20 = .ok (.aload_n 0, 1) := by decide +kernel
theorem dX9_checksum_21 : decode cX9_checksum 21 = .ok (.iload_n 3, 1) := by decide +kernel
theorem dX9_checksum_22 : decode cX9_checksum 22 = .ok (.invokevirtual 251, 3) := by decide +kernel
theorem dX9_checksum_25 : decode cX9_checksum 25 = .ok (.i2l, 1) := by decide +kernel
theorem dX9_checksum_26 : decode cX9_checksum 26 = .ok (.ladd, 1) := by decide +kernel
theorem dX9_checksum_27 : decode cX9_checksum 27 = .ok (.lstore_n 1, 1) := by decide +kernel
theorem dX9_checksum_28 : decode cX9_checksum 28 = .ok (.iinc 3 1, 3) := by decide +kernel
theorem dX9_checksum_31 : decode cX9_checksum 31 = .ok (.goto (-22), 3) := by decide +kernel
theorem dX9_checksum_34 : decode cX9_checksum 34 = .ok (.iconst 0, 1) := by decide +kernel
theorem dX9_checksum_35 : decode cX9_checksum 35 = .ok (.istore_n 3, 1) := by decide +kernel
theorem dX9_checksum_36 : decode cX9_checksum 36 = .ok (.iload_n 3, 1) := by decide +kernel
theorem dX9_checksum_37 : decode cX9_checksum 37 = .ok (.aload_n 0, 1) := by decide +kernel
theorem dX9_checksum_38 : decode cX9_checksum 38 = .ok (.getfield 17, 3) := by decide +kernel
theorem dX9_checksum_41 : decode cX9_checksum 41 = .ok (.iconst 1, 1) := by decide +kernel
theorem dX9_checksum_42 : decode cX9_checksum 42 = .ok (.iaload, 1) := by decide +kernel
theorem dX9_checksum_43 : decode cX9_checksum 43 = .ok (.if_icmp .ge 95, 3) := by decide +kernel
theorem dX9_checksum_46 : decode cX9_checksum 46 = .ok (.iconst 0, 1) := by decide +kernel
theorem dX9_checksum_47 : decode cX9_checksum 47 = .ok (.istore 4, 2) := by decide +kernel
theorem dX9_checksum_49 : decode cX9_checksum 49 = .ok (.iload 4, 2) := by decide +kernel
theorem dX9_checksum_51 : decode cX9_checksum 51 = .ok (.iconst 3, 1) := by decide +kernel
theorem dX9_checksum_52 : decode cX9_checksum 52 = .ok (.if_icmp .ge 29, 3) := by decide +kernel
theorem dX9_checksum_55 : decode cX9_checksum 55 = .ok (.ldc2_w 310, 3) := by decide +kernel
theorem dX9_checksum_58 : decode cX9_checksum 58 = .ok (.lload_n 1, 1) := by decide +kernel
theorem dX9_checksum_59 : decode cX9_checksum 59 = .ok (.lmul, 1) := by decide +kernel
theorem dX9_checksum_60 : decode cX9_checksum 60 = .ok (.aload_n 0, 1) := by decide +kernel
theorem dX9_checksum_61 : decode cX9_checksum 61 = .ok (.getfield 17, 3) := by decide +kernel
theorem dX9_checksum_64 : decode cX9_checksum 64 = .ok (.iload_n 3, 1) := by decide +kernel
theorem dX9_checksum_65 : decode cX9_checksum 65 = .ok (.invokestatic 201, 3) := by decide +kernel
theorem dX9_checksum_68 : decode cX9_checksum 68 = .ok (.iload 4, 2) := by decide +kernel
theorem dX9_checksum_70 : decode cX9_checksum 70 = .ok (.iadd, 1) := by decide +kernel
theorem dX9_checksum_71 : decode cX9_checksum 71 = .ok (.iaload, 1) := by decide +kernel
theorem dX9_checksum_72 : decode cX9_checksum 72 = .ok (.i2l, 1) := by decide +kernel
theorem dX9_checksum_73 : decode cX9_checksum 73 = .ok (.ladd, 1) := by decide +kernel
theorem dX9_checksum_74 : decode cX9_checksum 74 = .ok (.lstore_n 1, 1) := by decide +kernel
theorem dX9_checksum_75 : decode cX9_checksum 75 = .ok (.iinc 4 1, 3) := by decide +kernel
theorem dX9_checksum_78 : decode cX9_checksum 78 = .ok (.goto (-29), 3) := by decide +kernel
theorem dX9_checksum_81 : decode cX9_checksum 81 = .ok (.iconst 0, 1) := by decide +kernel
theorem dX9_checksum_82 : decode cX9_checksum 82 = .ok (.istore 4, 2) := by decide +kernel
theorem dX9_checksum_84 : decode cX9_checksum 84 = .ok (.iload 4, 2) := by decide +kernel
theorem dX9_checksum_86 : decode cX9_checksum 86 = .ok (.aload_n 0, 1) := by decide +kernel
theorem dX9_checksum_87 : decode cX9_checksum 87 = .ok (.iload_n 3, 1) := by decide +kernel
theorem dX9_checksum_88 : decode cX9_checksum 88 = .ok (.invokevirtual 242, 3) := by decide +kernel
theorem dX9_checksum_91 : decode cX9_checksum 91 = .ok (.if_icmp .ge 41, 3) := by decide +kernel
theorem dX9_checksum_94 : decode cX9_checksum 94 = .ok (.iconst 0, 1) := by decide +kernel
theorem dX9_checksum_95 : decode cX9_checksum 95 = .ok (.istore 5, 2) := by decide +kernel
theorem dX9_checksum_97 : decode cX9_checksum 97 = .ok (.iload 5, 2) := by decide +kernel
theorem dX9_checksum_99 : decode cX9_checksum 99 = .ok (.iconst 3, 1) := by decide +kernel
theorem dX9_checksum_100 : decode cX9_checksum 100 = .ok (.if_icmp .ge 26, 3) := by decide +kernel
theorem dX9_checksum_103 : decode cX9_checksum 103 = .ok (.ldc2_w 310, 3) := by decide +kernel
theorem dX9_checksum_106 : decode cX9_checksum 106 = .ok (.lload_n 1, 1) := by decide +kernel
theorem dX9_checksum_107 : decode cX9_checksum 107 = .ok (.lmul, 1) := by decide +kernel
theorem dX9_checksum_108 : decode cX9_checksum 108 = .ok (.aload_n 0, 1) := by decide +kernel
theorem dX9_checksum_109 : decode cX9_checksum 109 = .ok (.iload_n 3, 1) := by decide +kernel
theorem dX9_checksum_110 : decode cX9_checksum 110 = .ok (.iload 4, 2) := by decide +kernel
theorem dX9_checksum_112 : decode cX9_checksum 112 = .ok (.iload 5, 2) := by decide +kernel
theorem dX9_checksum_114 : decode cX9_checksum 114 = .ok (.invokevirtual 260, 3) := by decide +kernel
theorem dX9_checksum_117 : decode cX9_checksum 117 = .ok (.i2l, 1) := by decide +kernel
theorem dX9_checksum_118 : decode cX9_checksum 118 = .ok (.ladd, 1) := by decide +kernel
theorem dX9_checksum_119 : decode cX9_checksum 119 = .ok (.lstore_n 1, 1) := by decide +kernel
theorem dX9_checksum_120 : decode cX9_checksum 120 = .ok (.iinc 5 1, 3) := by decide +kernel
theorem dX9_checksum_123 : decode cX9_checksum 123 = .ok (.goto (-26), 3) := by decide +kernel
theorem dX9_checksum_126 : decode cX9_checksum 126 = .ok (.iinc 4 1, 3) := by decide +kernel
theorem dX9_checksum_129 : decode cX9_checksum 129 = .ok (.goto (-45), 3) := by decide +kernel
theorem dX9_checksum_132 : decode cX9_checksum 132 = .ok (.iinc 3 1, 3) := by decide +kernel
theorem dX9_checksum_135 : decode cX9_checksum 135 = .ok (.goto (-99), 3) := by decide +kernel
theorem dX9_checksum_138 : decode cX9_checksum 138 = .ok (.iconst 0, 1) := by decide +kernel
theorem dX9_checksum_139 : decode cX9_checksum 139 = .ok (.istore_n 3, 1) := by decide +kernel
theorem dX9_checksum_140 : decode cX9_checksum 140 = .ok (.iload_n 3, 1) := by decide +kernel
theorem dX9_checksum_141 : decode cX9_checksum 141 = .ok (.iconst 3, 1) := by decide +kernel
theorem dX9_checksum_142 : decode cX9_checksum 142 = .ok (.aload_n 0, 1) := by decide +kernel
theorem dX9_checksum_143 : decode cX9_checksum 143 = .ok (.getfield 17, 3) := by decide +kernel
theorem dX9_checksum_146 : decode cX9_checksum 146 = .ok (.iconst 5, 1) := by decide +kernel
theorem dX9_checksum_147 : decode cX9_checksum 147 = .ok (.iaload, 1) := by decide +kernel
theorem dX9_checksum_148 : decode cX9_checksum 148 = .ok (.imul, 1) := by decide +kernel
theorem dX9_checksum_149 : decode cX9_checksum 149 = .ok (.if_icmp .ge 26, 3) := by decide +kernel
theorem dX9_checksum_152 : decode cX9_checksum 152 = .ok (.ldc2_w 310, 3) := by decide +kernel
theorem dX9_checksum_155 : decode cX9_checksum 155 = .ok (.lload_n 1, 1) := by decide +kernel
theorem dX9_checksum_156 : decode cX9_checksum 156 = .ok (.lmul, 1) := by decide +kernel
theorem dX9_checksum_157 : decode cX9_checksum 157 = .ok (.aload_n 0, 1) := by decide +kernel
theorem dX9_checksum_158 : decode cX9_checksum 158 = .ok (.getfield 17, 3) := by decide +kernel
theorem dX9_checksum_161 : decode cX9_checksum 161 = .ok (.bipush 118, 2) := by decide +kernel
theorem dX9_checksum_163 : decode cX9_checksum 163 = .ok (.iload_n 3, 1) := by decide +kernel
theorem dX9_checksum_164 : decode cX9_checksum 164 = .ok (.iadd, 1) := by decide +kernel
theorem dX9_checksum_165 : decode cX9_checksum 165 = .ok (.iaload, 1) := by decide +kernel
theorem dX9_checksum_166 : decode cX9_checksum 166 = .ok (.i2l, 1) := by decide +kernel
theorem dX9_checksum_167 : decode cX9_checksum 167 = .ok (.ladd, 1) := by decide +kernel
theorem dX9_checksum_168 : decode cX9_checksum 168 = .ok (.lstore_n 1, 1) := by decide +kernel
theorem dX9_checksum_169 : decode cX9_checksum 169 = .ok (.iinc 3 1, 3) := by decide +kernel
theorem dX9_checksum_172 : decode cX9_checksum 172 = .ok (.goto (-32), 3) := by decide +kernel
theorem dX9_checksum_175 : decode cX9_checksum 175 = .ok (.ldc2_w 310, 3) := by decide +kernel
theorem dX9_checksum_178 : decode cX9_checksum 178 = .ok (.lload_n 1, 1) := by decide +kernel
theorem dX9_checksum_179 : decode cX9_checksum 179 = .ok (.lmul, 1) := by decide +kernel
theorem dX9_checksum_180 : decode cX9_checksum 180 = .ok (.aload_n 0, 1) := by decide +kernel
theorem dX9_checksum_181 : decode cX9_checksum 181 = .ok (.invokevirtual 263, 3) := by decide +kernel
theorem dX9_checksum_184 : decode cX9_checksum 184 = .ok (.i2l, 1) := by decide +kernel
theorem dX9_checksum_185 : decode cX9_checksum 185 = .ok (.ladd, 1) := by decide +kernel
theorem dX9_checksum_186 : decode cX9_checksum 186 = .ok (.lreturn, 1) := by decide +kernel
theorem dJ6_bitCount_0f7a4_0 : decode cJ6_bitCount_0f7a4 0 = .ok (.iload_n 0, 1) := by decide +kernel
theorem dJ6_bitCount_0f7a4_1 : decode cJ6_bitCount_0f7a4 1 = .ok (.iload_n 0, 1) := by decide +kernel
theorem dJ6_bitCount_0f7a4_2 : decode cJ6_bitCount_0f7a4 2 = .ok (.iconst 1, 1) := by decide +kernel
theorem dJ6_bitCount_0f7a4_3 : decode cJ6_bitCount_0f7a4 3 = .ok (.iushr, 1) := by decide +kernel
theorem dJ6_bitCount_0f7a4_4 : decode cJ6_bitCount_0f7a4 4 = .ok (.ldc_w 265, 3) := by decide +kernel
theorem dJ6_bitCount_0f7a4_7 : decode cJ6_bitCount_0f7a4 7 = .ok (.iand, 1) := by decide +kernel
theorem dJ6_bitCount_0f7a4_8 : decode cJ6_bitCount_0f7a4 8 = .ok (.isub, 1) := by decide +kernel
theorem dJ6_bitCount_0f7a4_9 : decode cJ6_bitCount_0f7a4 9 = .ok (.istore_n 0, 1) := by decide +kernel
theorem dJ6_bitCount_0f7a4_10 : decode cJ6_bitCount_0f7a4 10 = .ok (.iload_n 0, 1) := by decide +kernel
theorem dJ6_bitCount_0f7a4_11 : decode cJ6_bitCount_0f7a4 11 = .ok (.ldc_w 266, 3) := by decide +kernel
theorem dJ6_bitCount_0f7a4_14 : decode cJ6_bitCount_0f7a4 14 = .ok (.iand, 1) := by decide +kernel
theorem dJ6_bitCount_0f7a4_15 : decode cJ6_bitCount_0f7a4 15 = .ok (.iload_n 0, 1) := by decide +kernel
theorem dJ6_bitCount_0f7a4_16 : decode cJ6_bitCount_0f7a4 16 = .ok (.iconst 2, 1) := by decide +kernel
theorem dJ6_bitCount_0f7a4_17 : decode cJ6_bitCount_0f7a4 17 = .ok (.iushr, 1) := by decide +kernel
theorem dJ6_bitCount_0f7a4_18 : decode cJ6_bitCount_0f7a4 18 = .ok (.ldc_w 266, 3) := by decide +kernel
theorem dJ6_bitCount_0f7a4_21 : decode cJ6_bitCount_0f7a4 21 = .ok (.iand, 1) := by decide +kernel
theorem dJ6_bitCount_0f7a4_22 : decode cJ6_bitCount_0f7a4 22 = .ok (.iadd, 1) := by decide +kernel
theorem dJ6_bitCount_0f7a4_23 : decode cJ6_bitCount_0f7a4 23 = .ok (.istore_n 0, 1) := by decide +kernel
theorem dJ6_bitCount_0f7a4_24 : decode cJ6_bitCount_0f7a4 24 = .ok (.iload_n 0, 1) := by decide +kernel
theorem dJ6_bitCount_0f7a4_25 : decode cJ6_bitCount_0f7a4 25 = .ok (.iload_n 0, 1) := by decide +kernel
theorem dJ6_bitCount_0f7a4_26 : decode cJ6_bitCount_0f7a4 26 = .ok (.iconst 4, 1) := by decide +kernel
theorem dJ6_bitCount_0f7a4_27 : decode cJ6_bitCount_0f7a4 27 = .ok (.iushr, 1) := by decide +kernel
theorem dJ6_bitCount_0f7a4_28 : decode cJ6_bitCount_0f7a4 28 = .ok (.iadd, 1) := by decide +kernel
theorem dJ6_bitCount_0f7a4_29 : decode cJ6_bitCount_0f7a4 29 = .ok (.ldc_w 267, 3) := by decide +kernel
theorem dJ6_bitCount_0f7a4_32 : decode cJ6_bitCount_0f7a4 32 = .ok (.iand, 1) := by decide +kernel
theorem dJ6_bitCount_0f7a4_33 : decode cJ6_bitCount_0f7a4 33 = .ok (.istore_n 0, 1) := by decide +kernel
theorem dJ6_bitCount_0f7a4_34 : decode cJ6_bitCount_0f7a4 34 = .ok (.iload_n 0, 1) := by decide +kernel
theorem dJ6_bitCount_0f7a4_35 : decode cJ6_bitCount_0f7a4 35 = .ok (.iload_n 0, 1) := by decide +kernel
theorem dJ6_bitCount_0f7a4_36 : decode cJ6_bitCount_0f7a4 36 = .ok (.bipush 8, 2) := by decide +kernel
theorem dJ6_bitCount_0f7a4_38 : decode cJ6_bitCount_0f7a4 38 = .ok (.iushr, 1) := by decide +kernel
theorem dJ6_bitCount_0f7a4_39 : decode cJ6_bitCount_0f7a4 39 = .ok (.iadd, 1) := by decide +kernel
theorem dJ6_bitCount_0f7a4_40 : decode cJ6_bitCount_0f7a4 40 = .ok (.istore_n 0, 1) := by decide +kernel
theorem dJ6_bitCount_0f7a4_41 : decode cJ6_bitCount_0f7a4 41 = .ok (.iload_n 0, 1) := by decide +kernel
theorem dJ6_bitCount_0f7a4_42 : decode cJ6_bitCount_0f7a4 42 = .ok (.iload_n 0, 1) := by decide +kernel
theorem dJ6_bitCount_0f7a4_43 : decode cJ6_bitCount_0f7a4 43 = .ok (.bipush 16, 2) := by decide +kernel
theorem dJ6_bitCount_0f7a4_45 : decode cJ6_bitCount_0f7a4 45 = .ok (.iushr, 1) := by decide +kernel
theorem dJ6_bitCount_0f7a4_46 : decode cJ6_bitCount_0f7a4 46 = .ok (.iadd, 1) := by decide +kernel
theorem dJ6_bitCount_0f7a4_47 : decode cJ6_bitCount_0f7a4 47 = .ok (.istore_n 0, 1) := by decide +kernel
theorem dJ6_bitCount_0f7a4_48 : decode cJ6_bitCount_0f7a4 48 = .ok (.iload_n 0, 1) := by decide +kernel
theorem dJ6_bitCount_0f7a4_49 : decode cJ6_bitCount_0f7a4 49 = .ok (.bipush 63, 2) := by decide +kernel
theorem dJ6_bitCount_0f7a4_51 : decode cJ6_bitCount_0f7a4 51 = .ok (.iand, 1) := by decide +kernel
theorem dJ6_bitCount_0f7a4_52 : decode cJ6_bitCount_0f7a4 52 = .ok (.ireturn, 1) := by decide +kernel
theorem dJ13_bitCount_95d88_0 : decode cJ13_bitCount_95d88 0 = .ok (.lload_n 0, 1) := by decide +kernel
theorem dJ13_bitCount_95d88_1 : decode cJ13_bitCount_95d88 1 = .ok (.lload_n 0, 1) := by decide +kernel
theorem dJ13_bitCount_95d88_2 : decode cJ13_bitCount_95d88 2 = .ok (.iconst 1, 1) := by decide +kernel
theorem dJ13_bitCount_95d88_3 : decode cJ13_bitCount_95d88 3 = .ok (.lushr, 1) := by decide +kernel
theorem dJ13_bitCount_95d88_4 : decode cJ13_bitCount_95d88 4 = .ok (.ldc2_w 314, 3) := by decide +kernel
theorem dJ13_bitCount_95d88_7 : decode cJ13_bitCount_95d88 7 = .ok (.land, 1) := by decide +kernel
theorem dJ13_bitCount_95d88_8 : decode cJ13_bitCount_95d88 8 = .ok (.lsub, 1) := by decide +kernel
theorem dJ13_bitCount_95d88_9 : decode cJ13_bitCount_95d88 9 = .ok (.lstore_n 0, 1) := by decide +kernel
theorem dJ13_bitCount_95d88_10 : decode cJ13_bitCount_95d88 10 = .ok (.lload_n 0, 1) := by decide +kernel
theorem dJ13_bitCount_95d88_11 : decode cJ13_bitCount_95d88 11 = .ok (.ldc2_w 316, 3) := by decide +kernel
theorem dJ13_bitCount_95d88_14 : decode cJ13_bitCount_95d88 14 = .ok (.land, 1) := by decide +kernel
theorem dJ13_bitCount_95d88_15 : decode cJ13_bitCount_95d88 15 = .ok (.lload_n 0, 1) := by decide +kernel
theorem dJ13_bitCount_95d88_16 : decode cJ13_bitCount_95d88 16 = .ok (.iconst 2, 1) := by decide +kernel
theorem dJ13_bitCount_95d88_17 : decode cJ13_bitCount_95d88 17 = .ok (.lushr, 1) := by decide +kernel
theorem dJ13_bitCount_95d88_18 : decode cJ13_bitCount_95d88 18 = .ok (.ldc2_w 316, 3) := by decide +kernel
theorem dJ13_bitCount_95d88_21 : decode cJ13_bitCount_95d88 21 = .ok (.land, 1) := by decide +kernel
theorem dJ13_bitCount_95d88_22 : decode cJ13_bitCount_95d88 22 = .ok (.ladd, 1) := by decide +kernel
theorem dJ13_bitCount_95d88_23 : decode cJ13_bitCount_95d88 23 = .ok (.lstore_n 0, 1) := by decide +kernel
theorem dJ13_bitCount_95d88_24 : decode cJ13_bitCount_95d88 24 = .ok (.lload_n 0, 1) := by decide +kernel
theorem dJ13_bitCount_95d88_25 : decode cJ13_bitCount_95d88 25 = .ok (.lload_n 0, 1) := by decide +kernel
theorem dJ13_bitCount_95d88_26 : decode cJ13_bitCount_95d88 26 = .ok (.iconst 4, 1) := by decide +kernel
theorem dJ13_bitCount_95d88_27 : decode cJ13_bitCount_95d88 27 = .ok (.lushr, 1) := by decide +kernel
theorem dJ13_bitCount_95d88_28 : decode cJ13_bitCount_95d88 28 = .ok (.ladd, 1) := by decide +kernel
theorem dJ13_bitCount_95d88_29 : decode cJ13_bitCount_95d88 29 = .ok (.ldc2_w 318, 3) := by decide +kernel
theorem dJ13_bitCount_95d88_32 : decode cJ13_bitCount_95d88 32 = .ok (.land, 1) := by decide +kernel
theorem dJ13_bitCount_95d88_33 : decode cJ13_bitCount_95d88 33 = .ok (.lstore_n 0, 1) := by decide +kernel
theorem dJ13_bitCount_95d88_34 : decode cJ13_bitCount_95d88 34 = .ok (.lload_n 0, 1) := by decide +kernel
theorem dJ13_bitCount_95d88_35 : decode cJ13_bitCount_95d88 35 = .ok (.lload_n 0, 1) := by decide +kernel
theorem dJ13_bitCount_95d88_36 : decode cJ13_bitCount_95d88 36 = .ok (.bipush 8, 2) := by decide +kernel
theorem dJ13_bitCount_95d88_38 : decode cJ13_bitCount_95d88 38 = .ok (.lushr, 1) := by decide +kernel
theorem dJ13_bitCount_95d88_39 : decode cJ13_bitCount_95d88 39 = .ok (.ladd, 1) := by decide +kernel
theorem dJ13_bitCount_95d88_40 : decode cJ13_bitCount_95d88 40 = .ok (.lstore_n 0, 1) := by decide +kernel
theorem dJ13_bitCount_95d88_41 : decode cJ13_bitCount_95d88 41 = .ok (.lload_n 0, 1) := by decide +kernel
theorem dJ13_bitCount_95d88_42 : decode cJ13_bitCount_95d88 42 = .ok (.lload_n 0, 1) := by decide +kernel
theorem dJ13_bitCount_95d88_43 : decode cJ13_bitCount_95d88 43 = .ok (.bipush 16, 2) := by decide +kernel
theorem dJ13_bitCount_95d88_45 : decode cJ13_bitCount_95d88 45 = .ok (.lushr, 1) := by decide +kernel
theorem dJ13_bitCount_95d88_46 : decode cJ13_bitCount_95d88 46 = .ok (.ladd, 1) := by decide +kernel
theorem dJ13_bitCount_95d88_47 : decode cJ13_bitCount_95d88 47 = .ok (.lstore_n 0, 1) := by decide +kernel
theorem dJ13_bitCount_95d88_48 : decode cJ13_bitCount_95d88 48 = .ok (.lload_n 0, 1) := by decide +kernel
theorem dJ13_bitCount_95d88_49 : decode cJ13_bitCount_95d88 49 = .ok (.lload_n 0, 1) := by decide +kernel
theorem dJ13_bitCount_95d88_50 : decode cJ13_bitCount_95d88 50 = .ok (.bipush 32, 2) := by decide +kernel
theorem dJ13_bitCount_95d88_52 : decode cJ13_bitCount_95d88 52 = .ok (.lushr, 1) := by decide +kernel
theorem dJ13_bitCount_95d88_53 : decode cJ13_bitCount_95d88 53 = .ok (.ladd, 1) := by decide +kernel
theorem dJ13_bitCount_95d88_54 : decode cJ13_bitCount_95d88 54 = .ok (.lstore_n 0, 1) := by decide +kernel
theorem dJ13_bitCount_95d88_55 : decode cJ13_bitCount_95d88 55 = .ok (.lload_n 0, 1) := by decide +kernel
theorem dJ13_bitCount_95d88_56 : decode cJ13_bitCount_95d88 56 = .ok (.l2i, 1) := by decide +kernel
theorem dJ13_bitCount_95d88_57 : decode cJ13_bitCount_95d88 57 = .ok (.bipush 127, 2) := by decide +kernel
theorem dJ13_bitCount_95d88_59 : decode cJ13_bitCount_95d88 59 = .ok (.iand, 1) := by decide +kernel
theorem dJ13_bitCount_95d88_60 : decode cJ13_bitCount_95d88 60 = .ok (.ireturn, 1) := by decide +kernel
theorem dJ9_floorMod_7cf53_0 : decode cJ9_floorMod_7cf53 0 = .ok (.iload_n 0, 1) := by decide +kernel
theorem dJ9_floorMod_7cf53_1 : decode cJ9_floorMod_7cf53 1 = .ok (.iload_n 1, 1) := by decide +kernel
theorem dJ9_floorMod_7cf53_2 : decode cJ9_floorMod_7cf53 2 = .ok (.irem, 1) := by decide +kernel
theorem dJ9_floorMod_7cf53_3 : decode cJ9_floorMod_7cf53 3 = .ok (.istore_n 2, 1) := by decide +kernel
theorem dJ9_floorMod_7cf53_4 : decode cJ9_floorMod_7cf53 4 = .ok (.iload_n 0, 1) := by decide +kernel
theorem dJ9_floorMod_7cf53_5 : decode cJ9_floorMod_7cf53 5 = .ok (.iload_n 1, 1) := by decide +kernel
theorem dJ9_floorMod_7cf53_6 : decode cJ9_floorMod_7cf53 6 = .ok (.ixor, 1) := by decide +kernel
theorem dJ9_floorMod_7cf53_7 : decode cJ9_floorMod_7cf53 7 = .ok (.ifCond .ge 11, 3) := by decide +kernel
theorem dJ9_floorMod_7cf53_10 : decode cJ9_floorMod_7cf53 10 = .ok (.iload_n 2, 1) := by decide +kernel
theorem dJ9_floorMod_7cf53_11 : decode cJ9_floorMod_7cf53 11 = .ok (.ifCond .eq 7, 3) := by decide +kernel
theorem dJ9_floorMod_7cf53_14 : decode cJ9_floorMod_7cf53 14 = .ok (.iload_n 2, 1) := by decide +kernel
theorem dJ9_floorMod_7cf53_15 : decode cJ9_floorMod_7cf53 15 = .ok (.iload_n 1, 1) := by decide +kernel
theorem dJ9_floorMod_7cf53_16 : decode cJ9_floorMod_7cf53 16 = .ok (.iadd, 1) := by decide +kernel
theorem dJ9_floorMod_7cf53_17 : decode cJ9_floorMod_7cf53 17 = .ok (.ireturn, 1) := by decide +kernel
theorem dJ9_floorMod_7cf53_18 : decode cJ9_floorMod_7cf53 18 = .ok (.iload_n 2, 1) := by decide +kernel
theorem dJ9_floorMod_7cf53_19 : decode cJ9_floorMod_7cf53 19 = .ok (.ireturn, 1) := by decide +kernel
theorem dJ9_max_7cf53_0 : decode cJ9_max_7cf53 0 = .ok (.iload_n 0, 1) := by decide +kernel
theorem dJ9_max_7cf53_1 : decode cJ9_max_7cf53 1 = .ok (.iload_n 1, 1) := by decide +kernel
theorem dJ9_max_7cf53_2 : decode cJ9_max_7cf53 2 = .ok (.if_icmp .lt 7, 3) := by decide +kernel
theorem dJ9_max_7cf53_5 : decode cJ9_max_7cf53 5 = .ok (.iload_n 0, 1) := by decide +kernel
theorem dJ9_max_7cf53_6 : decode cJ9_max_7cf53 6 = .ok (.goto 4, 3) := by decide +kernel
theorem dJ9_max_7cf53_9 : decode cJ9_max_7cf53 9 = .ok (.iload_n 1, 1) := by decide +kernel
theorem dJ9_max_7cf53_10 : decode cJ9_max_7cf53 10 = .ok (.ireturn, 1) := by decide +kernel
theorem dJ9_max_f86c9_0 : decode cJ9_max_f86c9 0 = .ok (.lload_n 0, 1) := by decide +kernel
theorem dJ9_max_f86c9_1 : decode cJ9_max_f86c9 1 = .ok (.lload_n 2, 1) := by decide +kernel
theorem dJ9_max_f86c9_2 : decode cJ9_max_f86c9 2 = .ok (.lcmp, 1) := by decide +kernel
theorem dJ9_max_f86c9_3 : decode cJ9_max_f86c9 3 = .ok (.ifCond .lt 7, 3) := by decide +kernel
theorem dJ9_max_f86c9_6 : decode cJ9_max_f86c9 6 = .ok (.lload_n 0, 1) := by decide +kernel
theorem dJ9_max_f86c9_7 : decode cJ9_max_f86c9 7 = .ok (.goto 4, 3) := by decide +kernel
theorem dJ9_max_f86c9_10 : decode cJ9_max_f86c9 10 = .ok (.lload_n 2, 1) := by decide +kernel
theorem dJ9_max_f86c9_11 : decode cJ9_max_f86c9 11 = .ok (.lreturn, 1) := by decide +kernel
theorem dJ9_min_7cf53_0 : decode cJ9_min_7cf53 0 = .ok (.iload_n 0, 1) := by decide +kernel
theorem dJ9_min_7cf53_1 : decode cJ9_min_7cf53 1 = .ok (.iload_n 1, 1) := by decide +kernel
theorem dJ9_min_7cf53_2 : decode cJ9_min_7cf53 2 = .ok (.if_icmp .gt 7, 3) := by decide +kernel
theorem dJ9_min_7cf53_5 : decode cJ9_min_7cf53 5 = .ok (.iload_n 0, 1) := by decide +kernel
theorem dJ9_min_7cf53_6 : decode cJ9_min_7cf53 6 = .ok (.goto 4, 3) := by decide +kernel
theorem dJ9_min_7cf53_9 : decode cJ9_min_7cf53 9 = .ok (.iload_n 1, 1) := by decide +kernel
theorem dJ9_min_7cf53_10 : decode cJ9_min_7cf53 10 = .ok (.ireturn, 1) := by decide +kernel
theorem dJ9_min_f86c9_0 : decode cJ9_min_f86c9 0 = .ok (.lload_n 0, 1) := by decide +kernel
theorem dJ9_min_f86c9_1 : decode cJ9_min_f86c9 1 = .ok (.lload_n 2, 1) := by decide +kernel
theorem dJ9_min_f86c9_2 : decode cJ9_min_f86c9 2 = .ok (.lcmp, 1) := by decide +kernel
theorem dJ9_min_f86c9_3 : decode cJ9_min_f86c9 3 = .ok (.ifCond .gt 7, 3) := by decide +kernel
theorem dJ9_min_f86c9_6 : decode cJ9_min_f86c9 6 = .ok (.lload_n 0, 1) := by decide +kernel
theorem dJ9_min_f86c9_7 : decode cJ9_min_f86c9 7 = .ok (.goto 4, 3) := by decide +kernel
theorem dJ9_min_f86c9_10 : decode cJ9_min_f86c9 10 = .ok (.lload_n 2, 1) := by decide +kernel
theorem dJ9_min_f86c9_11 : decode cJ9_min_f86c9 11 = .ok (.lreturn, 1) := by decide +kernel
theorem dJ0_length_8abf5_0 : decode cJ0_length_8abf5 0 = .ok (.aload_n 0, 1) := by decide +kernel
theorem dJ0_length_8abf5_1 : decode cJ0_length_8abf5 1 = .ok (.getfield 9, 3) := by decide +kernel
theorem dJ0_length_8abf5_4 : decode cJ0_length_8abf5 4 = .ok (.arraylength, 1) := by decide +kernel
theorem dJ0_length_8abf5_5 : decode cJ0_length_8abf5 5 = .ok (.aload_n 0, 1) := by decide +kernel
theorem dJ0_length_8abf5_6 : decode cJ0_length_8abf5 6 = .ok (.invokevirtual 335, 3) := by decide +kernel
theorem dJ0_length_8abf5_9 : decode cJ0_length_8abf5 9 = .ok (.ishr, 1) := by decide +kernel
theorem dJ0_length_8abf5_10 : decode cJ0_length_8abf5 10 = .ok (.ireturn, 1) := by decide +kernel
theorem dJ0_charAt_5068e_0 : decode cJ0_charAt_5068e 0 = .ok (.aload_n 0, 1) := by decide +kernel
theorem dJ0_charAt_5068e_1 : decode cJ0_charAt_5068e 1 = .ok (.invokevirtual 492, 3) := by decide +kernel
theorem dJ0_charAt_5068e_4 : decode cJ0_charAt_5068e 4 = .ok (.ifCond .eq 12, 3) := by decide +kernel
theorem dJ0_charAt_5068e_7 : decode cJ0_charAt_5068e 7 = .ok (.aload_n 0, 1) := by decide +kernel
theorem dJ0_charAt_5068e_8 : decode cJ0_charAt_5068e 8 = .ok (.getfield 9, 3) := by decide +kernel
theorem dJ0_charAt_5068e_11 : decode cJ0_charAt_5068e 11 = .ok (.iload_n 1, 1) := by decide +kernel
theorem dJ0_charAt_5068e_12 : decode cJ0_charAt_5068e 12 = .ok (.invokestatic 495, 3) := by decide +kernel
theorem dJ0_charAt_5068e_15 : decode cJ0_charAt_5068e 15 = .ok (.ireturn, 1) := by decide +kernel
theorem dJ0_charAt_5068e_16 : decode cJ0_charAt_5068e 16 = .ok (.aload_n 0, 1) := by decide +kernel
theorem dJ0_charAt_5068e_17 : decode cJ0_charAt_5068e 17 = .ok (.getfield 9, 3) := by decide +kernel
theorem dJ0_charAt_5068e_20 : decode cJ0_charAt_5068e 20 = .ok (.iload_n 1, 1) := by decide +kernel
theorem dJ0_charAt_5068e_21 : decode cJ0_charAt_5068e 21 = .ok (.invokestatic 498, 3) := by decide +kernel
theorem dJ0_charAt_5068e_24 : decode cJ0_charAt_5068e 24 = .ok (.ireturn, 1) := by decide +kernel
theorem dJ0_coder_7d493_0 : decode cJ0_coder_7d493 0 = .ok (.getstatic 38, 3) := by decide +kernel
theorem dJ0_coder_7d493_3 : decode cJ0_coder_7d493 3 = .ok (.ifCond .eq 10, 3) := by decide +kernel
theorem dJ0_coder_7d493_6 : decode cJ0_coder_7d493 6 = .ok (.aload_n 0, 1) := by decide +kernel
theorem dJ0_coder_7d493_7 : decode cJ0_coder_7d493 7 = .ok (.getfield 15, 3) := by decide +kernel
theorem dJ0_coder_7d493_10 : decode cJ0_coder_7d493 10 = .ok (.goto 4, 3) := by decide +kernel
theorem dJ0_coder_7d493_13 : decode cJ0_coder_7d493 13 = .ok (.iconst 1, 1) := by decide +kernel
theorem dJ0_coder_7d493_14 : decode cJ0_coder_7d493 14 = .ok (.ireturn, 1) := by decide +kernel
theorem dJ0_isLatin1_aae02_0 : decode cJ0_isLatin1_aae02 0 = .ok (.getstatic 38, 3) := by decide +kernel
theorem dJ0_isLatin1_aae02_3 : decode cJ0_isLatin1_aae02 3 = .ok (.ifCond .eq 14, 3) := by decide +kernel
theorem dJ0_isLatin1_aae02_6 : decode cJ0_isLatin1_aae02 6 = .ok (.aload_n 0, 1) := by decide +kernel
theorem dJ0_isLatin1_aae02_7 : decode cJ0_isLatin1_aae02 7 = .ok (.getfield 15, 3) := by decide +kernel
theorem dJ0_isLatin1_aae02_10 : decode cJ0_isLatin1_aae02 10 = .ok (.ifCond .ne 7, 3) := by decide +kernel
theorem dJ0_isLatin1_aae02_13 : decode cJ0_isLatin1_aae02 13 = .ok (.iconst 1, 1) := by decide +kernel
theorem dJ0_isLatin1_aae02_14 : decode cJ0_isLatin1_aae02 14 = .ok (.goto 4, 3) := by decide +kernel
theorem dJ0_isLatin1_aae02_17 : decode cJ0_isLatin1_aae02 17 = .ok (.iconst 0, 1) := by decide +kernel
theorem dJ0_isLatin1_aae02_18 : decode cJ0_isLatin1_aae02 18 = .ok (.ireturn, 1) := by decide +kernel
theorem dJ0_checkIndex_df160_0 : decode cJ0_checkIndex_df160 0 = .ok (.iload_n 0, 1) := by decide +kernel
theorem dJ0_checkIndex_df160_1 : decode cJ0_checkIndex_df160 1 = .ok (.iload_n 1, 1) := by decide +kernel
theorem dJ0_checkIndex_df160_2 : decode cJ0_checkIndex_df160 2 = .ok (.getstatic 1053, 3) := by decide +kernel
theorem dJ0_checkIndex_df160_5 : decode cJ0_checkIndex_df160 5 = .ok (.invokestatic 1059, 3) := by decide +kernel
theorem dJ0_checkIndex_df160_8 : decode cJ0_checkIndex_df160 8 = .ok (.pop, 1) := by decide +kernel
theorem dJ0_checkIndex_df160_9 : decode cJ0_checkIndex_df160 9 = .ok (.return_, 1) := by decide +kernel
theorem dJ1_charAt_3b067_0 : decode cJ1_charAt_3b067 0 = .ok (.iload_n 1, 1) := by decide +kernel
theorem dJ1_charAt_3b067_1 : decode cJ1_charAt_3b067 1 = .ok (.aload_n 0, 1) := by decide +kernel
theorem dJ1_charAt_3b067_2 : decode cJ1_charAt_3b067 2 = .ok (.arraylength, 1) := by decide +kernel
theorem dJ1_charAt_3b067_3 : decode cJ1_charAt_3b067 3 = .ok (.invokestatic 9, 3) := by decide +kernel
theorem dJ1_charAt_3b067_6 : decode cJ1_charAt_3b067 6 = .ok (.aload_n 0, 1) := by decide +kernel
theorem dJ1_charAt_3b067_7 : decode cJ1_charAt_3b067 7 = .ok (.iload_n 1, 1) := by decide +kernel
theorem dJ1_charAt_3b067_8 : decode cJ1_charAt_3b067 8 = .ok (.baload, 1) := by decide +kernel
theorem dJ1_charAt_3b067_9 : decode cJ1_charAt_3b067 9 = .ok (.sipush 255, 3) := by decide +kernel
theorem dJ1_charAt_3b067_12 : decode cJ1_charAt_3b067 12 = .ok (.iand, 1) := by decide +kernel
theorem dJ1_charAt_3b067_13 : decode cJ1_charAt_3b067 13 = .ok (.i2c, 1) := by decide +kernel
theorem dJ1_charAt_3b067_14 : decode cJ1_charAt_3b067 14 = .ok (.ireturn, 1) := by decide +kernel
theorem dJ2_getChar_3b067_0 : decode cJ2_getChar_3b067 0 = .ok (.getstatic 44, 3) := by decide +kernel
theorem dJ2_getChar_3b067_3 : decode cJ2_getChar_3b067 3 = .ok (.ifCond .ne 25, 3) := by decide +kernel
theorem dJ2_getChar_3b067_6 : decode cJ2_getChar_3b067 6 = .ok (.iload_n 1, 1) := by decide +kernel
theorem dJ2_getChar_3b067_7 : decode cJ2_getChar_3b067 7 = .ok (.ifCond .lt 11, 3) := by decide +kernel
theorem dJ2_getChar_3b067_10 : decode cJ2_getChar_3b067 10 = .ok (.iload_n 1, 1) := by decide +kernel
theorem dJ2_getChar_3b067_11 : decode cJ2_getChar_3b067 11 = .ok (.aload_n 0, 1) := by decide +kernel
theorem dJ2_getChar_3b067_12 : decode cJ2_getChar_3b067 12 = .ok (.invokestatic 48, 3) := by decide +kernel
theorem dJ2_getChar_3b067_15 : decode cJ2_getChar_3b067 15 = .ok (.if_icmp .lt 13, 3) := by decide +kernel
theorem dJ2_getChar_3b067_18 : decode cJ2_getChar_3b067 18 = .ok (.new 52, 3) := by decide +kernel
theorem dJ2_getChar_3b067_21 : decode cJ2_getChar_3b067 21 = .ok (.dup, 1) := by decide +kernel
theorem dJ2_getChar_3b067_22 : decode cJ2_getChar_3b067 22 = .ok (.ldc 54, 2) := by decide +kernel
theorem dJ2_getChar_3b067_24 : decode cJ2_getChar_3b067 24 = .ok (.invokespecial 56, 3) := by decide +kernel
theorem dJ2_getChar_3b067_27 : decode cJ2_getChar_3b067 27 = .ok (.athrow, 1) := by decide +kernel
theorem dJ2_getChar_3b067_28 : decode cJ2_getChar_3b067 28 = .ok (.iload_n 1, 1) := by decide +kernel
theorem dJ2_getChar_3b067_29 : decode cJ2_getChar_3b067 29 = .ok (.iconst 1, 1) := by decide +kernel
theorem dJ2_getChar_3b067_30 : decode cJ2_getChar_3b067 30 = .ok (.ishl, 1) := by decide +kernel
theorem dJ2_getChar_3b067_31 : decode cJ2_getChar_3b067 31 = .ok (.istore_n 1, 1) := by decide +kernel
theorem dJ2_getChar_3b067_32 : decode cJ2_getChar_3b067 32 = .ok (.aload_n 0, 1) := by decide +kernel
theorem dJ2_getChar_3b067_33 : decode cJ2_getChar_3b067 33 = .ok (.iload_n 1, 1) := by decide +kernel
theorem dJ2_getChar_3b067_34 : decode cJ2_getChar_3b067 34 = .ok (.iinc 1 1, 3) := by decide +kernel
theorem dJ2_getChar_3b067_37 : decode cJ2_getChar_3b067 37 = .ok (.baload, 1) := by decide +kernel
theorem dJ2_getChar_3b067_38 : decode cJ2_getChar_3b067 38 = .ok (.sipush 255, 3) := by decide +kernel
theorem dJ2_getChar_3b067_41 : decode cJ2_getChar_3b067 41 = .ok (.iand, 1) := by decide +kernel
theorem dJ2_getChar_3b067_42 : decode cJ2_getChar_3b067 42 = .ok (.getstatic 59, 3) := by decide +kernel
theorem dJ2_getChar_3b067_45 : decode cJ2_getChar_3b067 45 = .ok (.ishl, 1) := by decide +kernel
theorem dJ2_getChar_3b067_46 : decode cJ2_getChar_3b067 46 = .ok (.aload_n 0, 1) := by decide +kernel
theorem dJ2_getChar_3b067_47 : decode cJ2_getChar_3b067 47 = .ok (.iload_n 1, 1) := by decide +kernel
theorem dJ2_getChar_3b067_48 : decode cJ2_getChar_3b067 48 = .ok (.baload, 1) := by decide +kernel
theorem dJ2_getChar_3b067_49 : decode cJ2_getChar_3b067 49 = .ok (.sipush 255, 3) := by decide +kernel
theorem dJ2_getChar_3b067_52 : decode cJ2_getChar_3b067 52 = .ok (.iand, 1) := by decide +kernel
theorem dJ2_getChar_3b067_53 : decode cJ2_getChar_3b067 53 = .ok (.getstatic 63, 3) := by decide +kernel
theorem dJ2_getChar_3b067_56 : decode cJ2_getChar_3b067 56 = .ok (.ishl, 1) := by decide +kernel
theorem dJ2_getChar_3b067_57 : decode cJ2_getChar_3b067 57 = .ok (.ior, 1) := by decide +kernel
theorem dJ2_getChar_3b067_58 : decode cJ2_getChar_3b067 58 = .ok (.i2c, 1) := by decide +kernel
theorem dJ2_getChar_3b067_59 : decode cJ2_getChar_3b067 59 = .ok (.ireturn, 1) := by decide +kernel
theorem dJ2_length_9d52b_0 : decode cJ2_length_9d52b 0 = .ok (.aload_n 0, 1) := by decide +kernel
theorem dJ2_length_9d52b_1 : decode cJ2_length_9d52b 1 = .ok (.arraylength, 1) := by decide +kernel
theorem dJ2_length_9d52b_2 : decode cJ2_length_9d52b 2 = .ok (.iconst 1, 1) := by decide +kernel
theorem dJ2_length_9d52b_3 : decode cJ2_length_9d52b 3 = .ok (.ishr, 1) := by decide +kernel
theorem dJ2_length_9d52b_4 : decode cJ2_length_9d52b 4 = .ok (.ireturn, 1) := by decide +kernel
theorem dJ2_charAt_3b067_0 : decode cJ2_charAt_3b067 0 = .ok (.iload_n 1, 1) := by decide +kernel
theorem dJ2_charAt_3b067_1 : decode cJ2_charAt_3b067 1 = .ok (.aload_n 0, 1) := by decide +kernel
theorem dJ2_charAt_3b067_2 : decode cJ2_charAt_3b067 2 = .ok (.invokestatic 67, 3) := by decide +kernel
theorem dJ2_charAt_3b067_5 : decode cJ2_charAt_3b067 5 = .ok (.aload_n 0, 1) := by decide +kernel
theorem dJ2_charAt_3b067_6 : decode cJ2_charAt_3b067 6 = .ok (.iload_n 1, 1) := by decide +kernel
theorem dJ2_charAt_3b067_7 : decode cJ2_charAt_3b067 7 = .ok (.invokestatic 71, 3) := by decide +kernel
theorem dJ2_charAt_3b067_10 : decode cJ2_charAt_3b067 10 = .ok (.ireturn, 1) := by decide +kernel
theorem dJ2_checkIndex_2214a_0 : decode cJ2_checkIndex_2214a 0 = .ok (.iload_n 0, 1) := by decide +kernel
theorem dJ2_checkIndex_2214a_1 : decode cJ2_checkIndex_2214a 1 = .ok (.aload_n 1, 1) := by decide +kernel
theorem dJ2_checkIndex_2214a_2 : decode cJ2_checkIndex_2214a 2 = .ok (.invokestatic 48, 3) := by decide +kernel
theorem dJ2_checkIndex_2214a_5 : decode cJ2_checkIndex_2214a 5 = .ok (.invokestatic 414, 3) := by decide +kernel
theorem dJ2_checkIndex_2214a_8 : decode cJ2_checkIndex_2214a 8 = .ok (.return_, 1) := by decide +kernel
theorem dJ7_fill_d0a16_0 : decode cJ7_fill_d0a16 0 = .ok (.iconst 0, 1) := by decide +kernel
theorem dJ7_fill_d0a16_1 : decode cJ7_fill_d0a16 1 = .ok (.istore_n 3, 1) := by decide +kernel
theorem dJ7_fill_d0a16_2 : decode cJ7_fill_d0a16 2 = .ok (.aload_n 0, 1) := by decide +kernel
theorem dJ7_fill_d0a16_3 : decode cJ7_fill_d0a16 3 = .ok (.arraylength, 1) := by decide +kernel
theorem dJ7_fill_d0a16_4 : decode cJ7_fill_d0a16 4 = .ok (.istore 4, 2) := by decide +kernel
theorem dJ7_fill_d0a16_6 : decode cJ7_fill_d0a16 6 = .ok (.iload_n 3, 1) := by decide +kernel
theorem dJ7_fill_d0a16_7 : decode cJ7_fill_d0a16 7 = .ok (.iload 4, 2) := by decide +kernel
theorem dJ7_fill_d0a16_9 : decode cJ7_fill_d0a16 9 = .ok (.if_icmp .ge 13, 3) := by decide +kernel
theorem dJ7_fill_d0a16_12 : decode cJ7_fill_d0a16 12 = .ok (.aload_n 0, 1) := by decide +kernel
theorem dJ7_fill_d0a16_13 : decode cJ7_fill_d0a16 13 = .ok (.iload_n 3, 1) := by decide +kernel
theorem dJ7_fill_d0a16_14 : decode cJ7_fill_d0a16 14 = .ok (.lload_n 1, 1) := by decide +kernel
theorem dJ7_fill_d0a16_15 : decode cJ7_fill_d0a16 15 = .ok (.lastore, 1) := by decide +kernel
theorem dJ7_fill_d0a16_16 : decode cJ7_fill_d0a16 16 = .ok (.iinc 3 1, 3) := by decide +kernel
theorem dJ7_fill_d0a16_19 : decode cJ7_fill_d0a16 19 = .ok (.goto (-13), 3) := by decide +kernel
theorem dJ7_fill_d0a16_22 : decode cJ7_fill_d0a16 22 = .ok (.return_, 1) := by decide +kernel
theorem dJ7_copyOf_59c91_0 : decode cJ7_copyOf_59c91 0 = .ok (.iload_n 1, 1) := by decide +kernel
theorem dJ7_copyOf_59c91_1 : decode cJ7_copyOf_59c91 1 = .ok (.aload_n 0, 1) := by decide +kernel
theorem dJ7_copyOf_59c91_2 : decode cJ7_copyOf_59c91 2 = .ok (.arraylength, 1) := by decide +kernel
theorem dJ7_copyOf_59c91_3 : decode cJ7_copyOf_59c91 3 = .ok (.if_icmp .ne 11, 3) := by decide +kernel
theorem dJ7_copyOf_59c91_6 : decode cJ7_copyOf_59c91 6 = .ok (.aload_n 0, 1) := by decide +kernel
theorem dJ7_copyOf_59c91_7 : decode cJ7_copyOf_59c91 7 = .ok (.invokevirtual 316, 3) := by decide +kernel
theorem dJ7_copyOf_59c91_10 : decode cJ7_copyOf_59c91 10 = .ok (.checkcast 317, 3) := by decide +kernel
theorem dJ7_copyOf_59c91_13 : decode cJ7_copyOf_59c91 13 = .ok (.areturn, 1) := by decide +kernel
theorem dJ7_copyOf_59c91_14 : decode cJ7_copyOf_59c91 14 = .ok (.iload_n 1, 1) := by decide +kernel
theorem dJ7_copyOf_59c91_15 : decode cJ7_copyOf_59c91 15 = .ok (.newarray .int, 2) := by decide +kernel
theorem dJ7_copyOf_59c91_17 : decode cJ7_copyOf_59c91 17 = .ok (.astore_n 2, 1) := by decide +kernel
theorem dJ7_copyOf_59c91_18 : decode cJ7_copyOf_59c91 18 = .ok (.aload_n 0, 1) := by decide +kernel
theorem dJ7_copyOf_59c91_19 : decode cJ7_copyOf_59c91 19 = .ok (.iconst 0, 1) := by decide +kernel
theorem dJ7_copyOf_59c91_20 : decode cJ7_copyOf_59c91 20 = .ok (.aload_n 2, 1) := by decide +kernel
theorem dJ7_copyOf_59c91_21 : decode cJ7_copyOf_59c91 21 = .ok (.iconst 0, 1) := by decide +kernel
theorem dJ7_copyOf_59c91_22 : decode cJ7_copyOf_59c91 22 = .ok (.aload_n 0, 1) := by decide +kernel
theorem dJ7_copyOf_59c91_23 : decode cJ7_copyOf_59c91 23 = .ok (.arraylength, 1) := by decide +kernel
theorem dJ7_copyOf_59c91_24 : decode cJ7_copyOf_59c91 24 = .ok (.iload_n 1, 1) := by decide +kernel
theorem dJ7_copyOf_59c91_25 : decode cJ7_copyOf_59c91 25 = .ok (.invokestatic 304, 3) := by decide +kernel
theorem dJ7_copyOf_59c91_28 : decode cJ7_copyOf_59c91 28 = .ok (.invokestatic 150, 3) := by decide +kernel
theorem dJ7_copyOf_59c91_31 : decode cJ7_copyOf_59c91 31 = .ok (.aload_n 2, 1) := by decide +kernel
theorem dJ7_copyOf_59c91_32 : decode cJ7_copyOf_59c91 32 = .ok (.areturn, 1) := by decide +kernel
theorem dJ3_checkIndex_8e157_0 : decode cJ3_checkIndex_8e157 0 = .ok (.iload_n 0, 1) := by decide +kernel
theorem dJ3_checkIndex_8e157_1 : decode cJ3_checkIndex_8e157 1 = .ok (.ifCond .lt 8, 3) := by decide +kernel
theorem dJ3_checkIndex_8e157_4 : decode cJ3_checkIndex_8e157 4 = .ok (.iload_n 0, 1) := by decide +kernel
theorem dJ3_checkIndex_8e157_5 : decode cJ3_checkIndex_8e157 5 = .ok (.iload_n 1, 1) := by decide +kernel
theorem dJ3_checkIndex_8e157_6 : decode cJ3_checkIndex_8e157 6 = .ok (.if_icmp .lt 10, 3) := by decide +kernel
theorem dJ3_checkIndex_8e157_9 : decode cJ3_checkIndex_8e157 9 = .ok (.aload_n 2, 1) := by decide +kernel
theorem dJ3_checkIndex_8e157_10 : decode cJ3_checkIndex_8e157 10 = .ok (.iload_n 0, 1) := by decide +kernel
theorem dJ3_checkIndex_8e157_11 : decode cJ3_checkIndex_8e157 11 = .ok (.iload_n 1, 1) := by decide +kernel
theorem dJ3_checkIndex_8e157_12 : decode cJ3_checkIndex_8e157 12 = .ok (.invokestatic 95, 3) := by decide +kernel
theorem dJ3_checkIndex_8e157_15 : decode cJ3_checkIndex_8e157 15 = .ok (.athrow, 1) := by decide +kernel
theorem dJ3_checkIndex_8e157_16 : decode cJ3_checkIndex_8e157 16 = .ok (.iload_n 0, 1) := by decide +kernel
theorem dJ3_checkIndex_8e157_17 : decode cJ3_checkIndex_8e157 17 = .ok (.ireturn, 1) := by decide +kernel
theorem dL_load_0 : decode cL_load 0 = .ok (.aload_n 2, 1) := by decide +kernel
theorem dL_load_1 : decode cL_load 1 = .ok (.iconst 0, 1) := by decide +kernel
theorem dL_load_2 : decode cL_load 2 = .ok (.aload_n 0, 1) := by decide +kernel
theorem dL_load_3 : decode cL_load 3 = .ok (.iload_n 1, 1) := by decide +kernel
theorem dL_load_4 : decode cL_load 4 = .ok (.invokevirtual 7, 3) := by decide +kernel
theorem dL_load_7 : decode cL_load 7 = .ok (.i2l, 1) := by decide +kernel
theorem dL_load_8 : decode cL_load 8 = .ok (.lastore, 1) := by decide +kernel
theorem dL_load_9 : decode cL_load 9 = .ok (.goto 6, 3) := by decide +kernel
theorem dL_load_12 : decode cL_load 12 = .ok (.astore_n 3, 1) := by decide +kernel
theorem dL_load_13 : decode cL_load 13 = .ok (.iconst 1, 1) := by decide +kernel
theorem dL_load_14 : decode cL_load 14 = .ok (.ireturn, 1) := by decide +kernel
theorem dL_load_15 : decode cL_load 15 = .ok (.iconst 0, 1) := by decide +kernel
theorem dL_load_16 : decode cL_load 16 = .ok (.ireturn, 1) := by decide +kernel
theorem dL_state_0 : decode cL_state 0 = .ok (.aload_n 2, 1) := by decide +kernel
theorem dL_state_1 : decode cL_state 1 = .ok (.iconst 0, 1) := by decide +kernel
theorem dL_state_2 : decode cL_state 2 = .ok (.aload_n 0, 1) := by decide +kernel
theorem dL_state_3 : decode cL_state 3 = .ok (.iload_n 1, 1) := by decide +kernel
theorem dL_state_4 : decode cL_state 4 = .ok (.invokevirtual 15, 3) := by decide +kernel
theorem dL_state_7 : decode cL_state 7 = .ok (.i2l, 1) := by decide +kernel
theorem dL_state_8 : decode cL_state 8 = .ok (.lastore, 1) := by decide +kernel
theorem dL_state_9 : decode cL_state 9 = .ok (.goto 6, 3) := by decide +kernel
theorem dL_state_12 : decode cL_state 12 = .ok (.astore_n 3, 1) := by decide +kernel
theorem dL_state_13 : decode cL_state 13 = .ok (.iconst 1, 1) := by decide +kernel
theorem dL_state_14 : decode cL_state 14 = .ok (.ireturn, 1) := by decide +kernel
theorem dL_state_15 : decode cL_state 15 = .ok (.iconst 0, 1) := by decide +kernel
theorem dL_state_16 : decode cL_state 16 = .ok (.ireturn, 1) := by decide +kernel
theorem dL_player_0 : decode cL_player 0 = .ok (.aload_n 3, 1) := by decide +kernel
theorem dL_player_1 : decode cL_player 1 = .ok (.iconst 0, 1) := by decide +kernel
theorem dL_player_2 : decode cL_player 2 = .ok (.aload_n 0, 1) := by decide +kernel
theorem dL_player_3 : decode cL_player 3 = .ok (.iload_n 1, 1) := by decide +kernel
theorem dL_player_4 : decode cL_player 4 = .ok (.iload_n 2, 1) := by decide +kernel
theorem dL_player_5 : decode cL_player 5 = .ok (.invokevirtual 18, 3) := by decide +kernel
theorem dL_player_8 : decode cL_player 8 = .ok (.i2l, 1) := by decide +kernel
theorem dL_player_9 : decode cL_player 9 = .ok (.lastore, 1) := by decide +kernel
theorem dL_player_10 : decode cL_player 10 = .ok (.goto 11, 3) := by decide +kernel
theorem dL_player_13 : decode cL_player 13 = .ok (.astore 4, 2) := by decide +kernel
theorem dL_player_15 : decode cL_player 15 = .ok (.iconst 1, 1) := by decide +kernel
theorem dL_player_16 : decode cL_player 16 = .ok (.ireturn, 1) := by decide +kernel
theorem dL_player_17 : decode cL_player 17 = .ok (.astore 4, 2) := by decide +kernel
theorem dL_player_19 : decode cL_player 19 = .ok (.iconst 2, 1) := by decide +kernel
theorem dL_player_20 : decode cL_player 20 = .ok (.ireturn, 1) := by decide +kernel
theorem dL_player_21 : decode cL_player 21 = .ok (.iconst 0, 1) := by decide +kernel
theorem dL_player_22 : decode cL_player 22 = .ok (.ireturn, 1) := by decide +kernel
theorem dL_card_0 : decode cL_card 0 = .ok (.aload 4, 2) := by decide +kernel
theorem dL_card_2 : decode cL_card 2 = .ok (.iconst 0, 1) := by decide +kernel
theorem dL_card_3 : decode cL_card 3 = .ok (.aload_n 0, 1) := by decide +kernel
theorem dL_card_4 : decode cL_card 4 = .ok (.iload_n 1, 1) := by decide +kernel
theorem dL_card_5 : decode cL_card 5 = .ok (.iload_n 2, 1) := by decide +kernel
theorem dL_card_6 : decode cL_card 6 = .ok (.iload_n 3, 1) := by decide +kernel
theorem dL_card_7 : decode cL_card 7 = .ok (.invokevirtual 24, 3) := by decide +kernel
theorem dL_card_10 : decode cL_card 10 = .ok (.i2l, 1) := by decide +kernel
theorem dL_card_11 : decode cL_card 11 = .ok (.lastore, 1) := by decide +kernel
theorem dL_card_12 : decode cL_card 12 = .ok (.goto 15, 3) := by decide +kernel
theorem dL_card_15 : decode cL_card 15 = .ok (.astore 5, 2) := by decide +kernel
theorem dL_card_17 : decode cL_card 17 = .ok (.iconst 1, 1) := by decide +kernel
theorem dL_card_18 : decode cL_card 18 = .ok (.ireturn, 1) := by decide +kernel
theorem dL_card_19 : decode cL_card 19 = .ok (.astore 5, 2) := by decide +kernel
theorem dL_card_21 : decode cL_card 21 = .ok (.iconst 2, 1) := by decide +kernel
theorem dL_card_22 : decode cL_card 22 = .ok (.ireturn, 1) := by decide +kernel
theorem dL_card_23 : decode cL_card 23 = .ok (.astore 5, 2) := by decide +kernel
theorem dL_card_25 : decode cL_card 25 = .ok (.iconst 3, 1) := by decide +kernel
theorem dL_card_26 : decode cL_card 26 = .ok (.ireturn, 1) := by decide +kernel
theorem dL_card_27 : decode cL_card 27 = .ok (.iconst 0, 1) := by decide +kernel
theorem dL_card_28 : decode cL_card 28 = .ok (.ireturn, 1) := by decide +kernel
theorem dL_bid_0 : decode cL_bid 0 = .ok (.aload_n 3, 1) := by decide +kernel
theorem dL_bid_1 : decode cL_bid 1 = .ok (.iconst 0, 1) := by decide +kernel
theorem dL_bid_2 : decode cL_bid 2 = .ok (.aload_n 0, 1) := by decide +kernel
theorem dL_bid_3 : decode cL_bid 3 = .ok (.iload_n 1, 1) := by decide +kernel
theorem dL_bid_4 : decode cL_bid 4 = .ok (.iload_n 2, 1) := by decide +kernel
theorem dL_bid_5 : decode cL_bid 5 = .ok (.invokevirtual 30, 3) := by decide +kernel
theorem dL_bid_8 : decode cL_bid 8 = .ok (.i2l, 1) := by decide +kernel
theorem dL_bid_9 : decode cL_bid 9 = .ok (.lastore, 1) := by decide +kernel
theorem dL_bid_10 : decode cL_bid 10 = .ok (.goto 11, 3) := by decide +kernel
theorem dL_bid_13 : decode cL_bid 13 = .ok (.astore 4, 2) := by decide +kernel
theorem dL_bid_15 : decode cL_bid 15 = .ok (.iconst 1, 1) := by decide +kernel
theorem dL_bid_16 : decode cL_bid 16 = .ok (.ireturn, 1) := by decide +kernel
theorem dL_bid_17 : decode cL_bid 17 = .ok (.astore 4, 2) := by decide +kernel
theorem dL_bid_19 : decode cL_bid 19 = .ok (.iconst 2, 1) := by decide +kernel
theorem dL_bid_20 : decode cL_bid 20 = .ok (.ireturn, 1) := by decide +kernel
theorem dL_bid_21 : decode cL_bid 21 = .ok (.iconst 0, 1) := by decide +kernel
theorem dL_bid_22 : decode cL_bid 22 = .ok (.ireturn, 1) := by decide +kernel
theorem dL_productOf_0 : decode cL_productOf 0 = .ok (.aload_n 3, 1) := by decide +kernel
theorem dL_productOf_1 : decode cL_productOf 1 = .ok (.iconst 0, 1) := by decide +kernel
theorem dL_productOf_2 : decode cL_productOf 2 = .ok (.aload_n 0, 1) := by decide +kernel
theorem dL_productOf_3 : decode cL_productOf 3 = .ok (.iload_n 1, 1) := by decide +kernel
theorem dL_productOf_4 : decode cL_productOf 4 = .ok (.iload_n 2, 1) := by decide +kernel
theorem dL_productOf_5 : decode cL_productOf 5 = .ok (.invokevirtual 33, 3) := by decide +kernel
theorem dL_productOf_8 : decode cL_productOf 8 = .ok (.i2l, 1) := by decide +kernel
theorem dL_productOf_9 : decode cL_productOf 9 = .ok (.lastore, 1) := by decide +kernel
theorem dL_productOf_10 : decode cL_productOf 10 = .ok (.goto 7, 3) := by decide +kernel
theorem dL_productOf_13 : decode cL_productOf 13 = .ok (.astore 4, 2) := by decide +kernel
theorem dL_productOf_15 : decode cL_productOf 15 = .ok (.iconst 1, 1) := by decide +kernel
theorem dL_productOf_16 : decode cL_productOf 16 = .ok (.ireturn, 1) := by decide +kernel
theorem dL_productOf_17 : decode cL_productOf 17 = .ok (.iconst 0, 1) := by decide +kernel
theorem dL_productOf_18 : decode cL_productOf 18 = .ok (.ireturn, 1) := by decide +kernel
theorem dL_multiply_0 : decode cL_multiply 0 = .ok (.aload_n 3, 1) := by decide +kernel
theorem dL_multiply_1 : decode cL_multiply 1 = .ok (.iconst 0, 1) := by decide +kernel
theorem dL_multiply_2 : decode cL_multiply 2 = .ok (.aload_n 0, 1) := by decide +kernel
theorem dL_multiply_3 : decode cL_multiply 3 = .ok (.iload_n 1, 1) := by decide +kernel
theorem dL_multiply_4 : decode cL_multiply 4 = .ok (.iload_n 2, 1) := by decide +kernel
theorem dL_multiply_5 : decode cL_multiply 5 = .ok (.invokevirtual 36, 3) := by decide +kernel
theorem dL_multiply_8 : decode cL_multiply 8 = .ok (.i2l, 1) := by decide +kernel
theorem dL_multiply_9 : decode cL_multiply 9 = .ok (.lastore, 1) := by decide +kernel
theorem dL_multiply_10 : decode cL_multiply 10 = .ok (.goto 7, 3) := by decide +kernel
theorem dL_multiply_13 : decode cL_multiply 13 = .ok (.astore 4, 2) := by decide +kernel
theorem dL_multiply_15 : decode cL_multiply 15 = .ok (.iconst 1, 1) := by decide +kernel
theorem dL_multiply_16 : decode cL_multiply 16 = .ok (.ireturn, 1) := by decide +kernel
theorem dL_multiply_17 : decode cL_multiply 17 = .ok (.iconst 0, 1) := by decide +kernel
theorem dL_multiply_18 : decode cL_multiply 18 = .ok (.ireturn, 1) := by decide +kernel
theorem dL_inverse_0 : decode cL_inverse 0 = .ok (.aload_n 2, 1) := by decide +kernel
theorem dL_inverse_1 : decode cL_inverse 1 = .ok (.iconst 0, 1) := by decide +kernel
theorem dL_inverse_2 : decode cL_inverse 2 = .ok (.aload_n 0, 1) := by decide +kernel
theorem dL_inverse_3 : decode cL_inverse 3 = .ok (.iload_n 1, 1) := by decide +kernel
theorem dL_inverse_4 : decode cL_inverse 4 = .ok (.invokevirtual 39, 3) := by decide +kernel
theorem dL_inverse_7 : decode cL_inverse 7 = .ok (.i2l, 1) := by decide +kernel
theorem dL_inverse_8 : decode cL_inverse 8 = .ok (.lastore, 1) := by decide +kernel
theorem dL_inverse_9 : decode cL_inverse 9 = .ok (.goto 6, 3) := by decide +kernel
theorem dL_inverse_12 : decode cL_inverse 12 = .ok (.astore_n 3, 1) := by decide +kernel
theorem dL_inverse_13 : decode cL_inverse 13 = .ok (.iconst 1, 1) := by decide +kernel
theorem dL_inverse_14 : decode cL_inverse 14 = .ok (.ireturn, 1) := by decide +kernel
theorem dL_inverse_15 : decode cL_inverse 15 = .ok (.iconst 0, 1) := by decide +kernel
theorem dL_inverse_16 : decode cL_inverse 16 = .ok (.ireturn, 1) := by decide +kernel
theorem dL_order_0 : decode cL_order 0 = .ok (.aload_n 2, 1) := by decide +kernel
theorem dL_order_1 : decode cL_order 1 = .ok (.iconst 0, 1) := by decide +kernel
theorem dL_order_2 : decode cL_order 2 = .ok (.aload_n 0, 1) := by decide +kernel
theorem dL_order_3 : decode cL_order 3 = .ok (.iload_n 1, 1) := by decide +kernel
theorem dL_order_4 : decode cL_order 4 = .ok (.invokevirtual 42, 3) := by decide +kernel
theorem dL_order_7 : decode cL_order 7 = .ok (.i2l, 1) := by decide +kernel
theorem dL_order_8 : decode cL_order 8 = .ok (.lastore, 1) := by decide +kernel
theorem dL_order_9 : decode cL_order 9 = .ok (.goto 6, 3) := by decide +kernel
theorem dL_order_12 : decode cL_order 12 = .ok (.astore_n 3, 1) := by decide +kernel
theorem dL_order_13 : decode cL_order 13 = .ok (.iconst 1, 1) := by decide +kernel
theorem dL_order_14 : decode cL_order 14 = .ok (.ireturn, 1) := by decide +kernel
theorem dL_order_15 : decode cL_order 15 = .ok (.iconst 0, 1) := by decide +kernel
theorem dL_order_16 : decode cL_order 16 = .ok (.ireturn, 1) := by decide +kernel
theorem dL_reach_0 : decode cL_reach 0 = .ok (.aload_n 2, 1) := by decide +kernel
theorem dL_reach_1 : decode cL_reach 1 = .ok (.iconst 0, 1) := by decide +kernel
theorem dL_reach_2 : decode cL_reach 2 = .ok (.aload_n 0, 1) := by decide +kernel
theorem dL_reach_3 : decode cL_reach 3 = .ok (.iload_n 1, 1) := by decide +kernel
theorem dL_reach_4 : decode cL_reach 4 = .ok (.invokevirtual 45, 3) := by decide +kernel
theorem dL_reach_7 : decode cL_reach 7 = .ok (.i2l, 1) := by decide +kernel
theorem dL_reach_8 : decode cL_reach 8 = .ok (.lastore, 1) := by decide +kernel
theorem dL_reach_9 : decode cL_reach 9 = .ok (.goto 6, 3) := by decide +kernel
theorem dL_reach_12 : decode cL_reach 12 = .ok (.astore_n 3, 1) := by decide +kernel
theorem dL_reach_13 : decode cL_reach 13 = .ok (.iconst 1, 1) := by decide +kernel
theorem dL_reach_14 : decode cL_reach 14 = .ok (.ireturn, 1) := by decide +kernel
theorem dL_reach_15 : decode cL_reach 15 = .ok (.iconst 0, 1) := by decide +kernel
theorem dL_reach_16 : decode cL_reach 16 = .ok (.ireturn, 1) := by decide +kernel
theorem dL_reaches_0 : decode cL_reaches 0 = .ok (.aload_n 3, 1) := by decide +kernel
theorem dL_reaches_1 : decode cL_reaches 1 = .ok (.iconst 0, 1) := by decide +kernel
theorem dL_reaches_2 : decode cL_reaches 2 = .ok (.aload_n 0, 1) := by decide +kernel
theorem dL_reaches_3 : decode cL_reaches 3 = .ok (.iload_n 1, 1) := by decide +kernel
theorem dL_reaches_4 : decode cL_reaches 4 = .ok (.iload_n 2, 1) := by decide +kernel
theorem dL_reaches_5 : decode cL_reaches 5 = .ok (.invokevirtual 48, 3) := by decide +kernel
theorem dL_reaches_8 : decode cL_reaches 8 = .ok (.ifCond .eq 7, 3) := by decide +kernel
theorem dL_reaches_11 : decode cL_reaches 11 = .ok (.lconst 1, 1) := by decide +kernel
theorem dL_reaches_12 : decode cL_reaches 12 = .ok (.goto 4, 3) := by decide +kernel
theorem dL_reaches_15 : decode cL_reaches 15 = .ok (.lconst 0, 1) := by decide +kernel
theorem dL_reaches_16 : decode cL_reaches 16 = .ok (.lastore, 1) := by decide +kernel
theorem dL_reaches_17 : decode cL_reaches 17 = .ok (.goto 11, 3) := by decide +kernel
theorem dL_reaches_20 : decode cL_reaches 20 = .ok (.astore 4, 2) := by decide +kernel
theorem dL_reaches_22 : decode cL_reaches 22 = .ok (.iconst 1, 1) := by decide +kernel
theorem dL_reaches_23 : decode cL_reaches 23 = .ok (.ireturn, 1) := by decide +kernel
theorem dL_reaches_24 : decode cL_reaches 24 = .ok (.astore 4, 2) := by decide +kernel
theorem dL_reaches_26 : decode cL_reaches 26 = .ok (.iconst 2, 1) := by decide +kernel
theorem dL_reaches_27 : decode cL_reaches 27 = .ok (.ireturn, 1) := by decide +kernel
theorem dL_reaches_28 : decode cL_reaches 28 = .ok (.iconst 0, 1) := by decide +kernel
theorem dL_reaches_29 : decode cL_reaches 29 = .ok (.ireturn, 1) := by decide +kernel
theorem dL_generated_0 : decode cL_generated 0 = .ok (.aload_n 2, 1) := by decide +kernel
theorem dL_generated_1 : decode cL_generated 1 = .ok (.iconst 0, 1) := by decide +kernel
theorem dL_generated_2 : decode cL_generated 2 = .ok (.aload_n 0, 1) := by decide +kernel
theorem dL_generated_3 : decode cL_generated 3 = .ok (.iload_n 1, 1) := by decide +kernel
theorem dL_generated_4 : decode cL_generated 4 = .ok (.invokevirtual 52, 3) := by decide +kernel
theorem dL_generated_7 : decode cL_generated 7 = .ok (.i2l, 1) := by decide +kernel
theorem dL_generated_8 : decode cL_generated 8 = .ok (.lastore, 1) := by decide +kernel
theorem dL_generated_9 : decode cL_generated 9 = .ok (.goto 6, 3) := by decide +kernel
theorem dL_generated_12 : decode cL_generated 12 = .ok (.astore_n 3, 1) := by decide +kernel
theorem dL_generated_13 : decode cL_generated 13 = .ok (.iconst 1, 1) := by decide +kernel
theorem dL_generated_14 : decode cL_generated 14 = .ok (.ireturn, 1) := by decide +kernel
theorem dL_generated_15 : decode cL_generated 15 = .ok (.iconst 0, 1) := by decide +kernel
theorem dL_generated_16 : decode cL_generated 16 = .ok (.ireturn, 1) := by decide +kernel
theorem dL_fewest_0 : decode cL_fewest 0 = .ok (.aload_n 2, 1) := by decide +kernel
theorem dL_fewest_1 : decode cL_fewest 1 = .ok (.iconst 0, 1) := by decide +kernel
theorem dL_fewest_2 : decode cL_fewest 2 = .ok (.aload_n 0, 1) := by decide +kernel
theorem dL_fewest_3 : decode cL_fewest 3 = .ok (.iload_n 1, 1) := by decide +kernel
theorem dL_fewest_4 : decode cL_fewest 4 = .ok (.invokevirtual 55, 3) := by decide +kernel
theorem dL_fewest_7 : decode cL_fewest 7 = .ok (.i2l, 1) := by decide +kernel
theorem dL_fewest_8 : decode cL_fewest 8 = .ok (.lastore, 1) := by decide +kernel
theorem dL_fewest_9 : decode cL_fewest 9 = .ok (.goto 6, 3) := by decide +kernel
theorem dL_fewest_12 : decode cL_fewest 12 = .ok (.astore_n 3, 1) := by decide +kernel
theorem dL_fewest_13 : decode cL_fewest 13 = .ok (.iconst 1, 1) := by decide +kernel
theorem dL_fewest_14 : decode cL_fewest 14 = .ok (.ireturn, 1) := by decide +kernel
theorem dL_fewest_15 : decode cL_fewest 15 = .ok (.iconst 0, 1) := by decide +kernel
theorem dL_fewest_16 : decode cL_fewest 16 = .ok (.ireturn, 1) := by decide +kernel
theorem dL_cheapest_0 : decode cL_cheapest 0 = .ok (.aload_n 2, 1) := by decide +kernel
theorem dL_cheapest_1 : decode cL_cheapest 1 = .ok (.iconst 0, 1) := by decide +kernel
theorem dL_cheapest_2 : decode cL_cheapest 2 = .ok (.aload_n 0, 1) := by decide +kernel
theorem dL_cheapest_3 : decode cL_cheapest 3 = .ok (.iload_n 1, 1) := by decide +kernel
theorem dL_cheapest_4 : decode cL_cheapest 4 = .ok (.invokevirtual 58, 3) := by decide +kernel
theorem dL_cheapest_7 : decode cL_cheapest 7 = .ok (.i2l, 1) := by decide +kernel
theorem dL_cheapest_8 : decode cL_cheapest 8 = .ok (.lastore, 1) := by decide +kernel
theorem dL_cheapest_9 : decode cL_cheapest 9 = .ok (.goto 6, 3) := by decide +kernel
theorem dL_cheapest_12 : decode cL_cheapest 12 = .ok (.astore_n 3, 1) := by decide +kernel
theorem dL_cheapest_13 : decode cL_cheapest 13 = .ok (.iconst 1, 1) := by decide +kernel
theorem dL_cheapest_14 : decode cL_cheapest 14 = .ok (.ireturn, 1) := by decide +kernel
theorem dL_cheapest_15 : decode cL_cheapest 15 = .ok (.iconst 0, 1) := by decide +kernel
theorem dL_cheapest_16 : decode cL_cheapest 16 = .ok (.ireturn, 1) := by decide +kernel
theorem dL_opening_0 : decode cL_opening 0 = .ok (.aload_n 2, 1) := by decide +kernel
theorem dL_opening_1 : decode cL_opening 1 = .ok (.iconst 0, 1) := by decide +kernel
theorem dL_opening_2 : decode cL_opening 2 = .ok (.aload_n 0, 1) := by decide +kernel
theorem dL_opening_3 : decode cL_opening 3 = .ok (.iload_n 1, 1) := by decide +kernel
theorem dL_opening_4 : decode cL_opening 4 = .ok (.invokevirtual 61, 3) := by decide +kernel
theorem dL_opening_7 : decode cL_opening 7 = .ok (.i2l, 1) := by decide +kernel
theorem dL_opening_8 : decode cL_opening 8 = .ok (.lastore, 1) := by decide +kernel
theorem dL_opening_9 : decode cL_opening 9 = .ok (.goto 6, 3) := by decide +kernel
theorem dL_opening_12 : decode cL_opening 12 = .ok (.astore_n 3, 1) := by decide +kernel
theorem dL_opening_13 : decode cL_opening 13 = .ok (.iconst 1, 1) := by decide +kernel
theorem dL_opening_14 : decode cL_opening 14 = .ok (.ireturn, 1) := by decide +kernel
theorem dL_opening_15 : decode cL_opening 15 = .ok (.iconst 0, 1) := by decide +kernel
theorem dL_opening_16 : decode cL_opening 16 = .ok (.ireturn, 1) := by decide +kernel
theorem dL_play_0 : decode cL_play 0 = .ok (.aload_n 2, 1) := by decide +kernel
theorem dL_play_1 : decode cL_play 1 = .ok (.iconst 0, 1) := by decide +kernel
theorem dL_play_2 : decode cL_play 2 = .ok (.aload_n 0, 1) := by decide +kernel
theorem dL_play_3 : decode cL_play 3 = .ok (.iload_n 1, 1) := by decide +kernel
theorem dL_play_4 : decode cL_play 4 = .ok (.invokevirtual 64, 3) := by decide +kernel
theorem dL_play_7 : decode cL_play 7 = .ok (.i2l, 1) := by decide +kernel
theorem dL_play_8 : decode cL_play 8 = .ok (.lastore, 1) := by decide +kernel
theorem dL_play_9 : decode cL_play 9 = .ok (.goto 9, 3) := by decide +kernel
theorem dL_play_12 : decode cL_play 12 = .ok (.astore_n 3, 1) := by decide +kernel
theorem dL_play_13 : decode cL_play 13 = .ok (.iconst 1, 1) := by decide +kernel
theorem dL_play_14 : decode cL_play 14 = .ok (.ireturn, 1) := by decide +kernel
theorem dL_play_15 : decode cL_play 15 = .ok (.astore_n 3, 1) := by decide +kernel
theorem dL_play_16 : decode cL_play 16 = .ok (.iconst 2, 1) := by decide +kernel
theorem dL_play_17 : decode cL_play 17 = .ok (.ireturn, 1) := by decide +kernel
theorem dL_play_18 : decode cL_play 18 = .ok (.iconst 0, 1) := by decide +kernel
theorem dL_play_19 : decode cL_play 19 = .ok (.ireturn, 1) := by decide +kernel
theorem dL_cancel_0 : decode cL_cancel 0 = .ok (.aload_n 3, 1) := by decide +kernel
theorem dL_cancel_1 : decode cL_cancel 1 = .ok (.iconst 0, 1) := by decide +kernel
theorem dL_cancel_2 : decode cL_cancel 2 = .ok (.aload_n 0, 1) := by decide +kernel
theorem dL_cancel_3 : decode cL_cancel 3 = .ok (.iload_n 1, 1) := by decide +kernel
theorem dL_cancel_4 : decode cL_cancel 4 = .ok (.iload_n 2, 1) := by decide +kernel
theorem dL_cancel_5 : decode cL_cancel 5 = .ok (.invokevirtual 69, 3) := by decide +kernel
theorem dL_cancel_8 : decode cL_cancel 8 = .ok (.i2l, 1) := by decide +kernel
theorem dL_cancel_9 : decode cL_cancel 9 = .ok (.lastore, 1) := by decide +kernel
theorem dL_cancel_10 : decode cL_cancel 10 = .ok (.goto 11, 3) := by decide +kernel
theorem dL_cancel_13 : decode cL_cancel 13 = .ok (.astore 4, 2) := by decide +kernel
theorem dL_cancel_15 : decode cL_cancel 15 = .ok (.iconst 1, 1) := by decide +kernel
theorem dL_cancel_16 : decode cL_cancel 16 = .ok (.ireturn, 1) := by decide +kernel
theorem dL_cancel_17 : decode cL_cancel 17 = .ok (.astore 4, 2) := by decide +kernel
theorem dL_cancel_19 : decode cL_cancel 19 = .ok (.iconst 2, 1) := by decide +kernel
theorem dL_cancel_20 : decode cL_cancel 20 = .ok (.ireturn, 1) := by decide +kernel
theorem dL_cancel_21 : decode cL_cancel 21 = .ok (.iconst 0, 1) := by decide +kernel
theorem dL_cancel_22 : decode cL_cancel 22 = .ok (.ireturn, 1) := by decide +kernel
theorem dL_pass_0 : decode cL_pass 0 = .ok (.aload_n 1, 1) := by decide +kernel
theorem dL_pass_1 : decode cL_pass 1 = .ok (.iconst 0, 1) := by decide +kernel
theorem dL_pass_2 : decode cL_pass 2 = .ok (.aload_n 0, 1) := by decide +kernel
theorem dL_pass_3 : decode cL_pass 3 = .ok (.invokevirtual 72, 3) := by decide +kernel
theorem dL_pass_6 : decode cL_pass 6 = .ok (.i2l, 1) := by decide +kernel
theorem dL_pass_7 : decode cL_pass 7 = .ok (.lastore, 1) := by decide +kernel
theorem dL_pass_8 : decode cL_pass 8 = .ok (.goto 6, 3) := by decide +kernel
theorem dL_pass_11 : decode cL_pass 11 = .ok (.astore_n 2, 1) := by decide +kernel
theorem dL_pass_12 : decode cL_pass 12 = .ok (.iconst 1, 1) := by decide +kernel
theorem dL_pass_13 : decode cL_pass 13 = .ok (.ireturn, 1) := by decide +kernel
theorem dL_pass_14 : decode cL_pass 14 = .ok (.iconst 0, 1) := by decide +kernel
theorem dL_pass_15 : decode cL_pass 15 = .ok (.ireturn, 1) := by decide +kernel
theorem dL_give_0 : decode cL_give 0 = .ok (.aload 4, 2) := by decide +kernel
theorem dL_give_2 : decode cL_give 2 = .ok (.iconst 0, 1) := by decide +kernel
theorem dL_give_3 : decode cL_give 3 = .ok (.aload_n 0, 1) := by decide +kernel
theorem dL_give_4 : decode cL_give 4 = .ok (.iload_n 1, 1) := by decide +kernel
theorem dL_give_5 : decode cL_give 5 = .ok (.iload_n 2, 1) := by decide +kernel
theorem dL_give_6 : decode cL_give 6 = .ok (.iload_n 3, 1) := by decide +kernel
theorem dL_give_7 : decode cL_give 7 = .ok (.invokevirtual 76, 3) := by decide +kernel
theorem dL_give_10 : decode cL_give 10 = .ok (.i2l, 1) := by decide +kernel
theorem dL_give_11 : decode cL_give 11 = .ok (.lastore, 1) := by decide +kernel
theorem dL_give_12 : decode cL_give 12 = .ok (.goto 15, 3) := by decide +kernel
theorem dL_give_15 : decode cL_give 15 = .ok (.astore 5, 2) := by decide +kernel
theorem dL_give_17 : decode cL_give 17 = .ok (.iconst 1, 1) := by decide +kernel
theorem dL_give_18 : decode cL_give 18 = .ok (.ireturn, 1) := by decide +kernel
theorem dL_give_19 : decode cL_give 19 = .ok (.astore 5, 2) := by decide +kernel
theorem dL_give_21 : decode cL_give 21 = .ok (.iconst 2, 1) := by decide +kernel
theorem dL_give_22 : decode cL_give 22 = .ok (.ireturn, 1) := by decide +kernel
theorem dL_give_23 : decode cL_give 23 = .ok (.astore 5, 2) := by decide +kernel
theorem dL_give_25 : decode cL_give 25 = .ok (.iconst 3, 1) := by decide +kernel
theorem dL_give_26 : decode cL_give 26 = .ok (.ireturn, 1) := by decide +kernel
theorem dL_give_27 : decode cL_give 27 = .ok (.iconst 0, 1) := by decide +kernel
theorem dL_give_28 : decode cL_give 28 = .ok (.ireturn, 1) := by decide +kernel
theorem dL_discard_0 : decode cL_discard 0 = .ok (.aload_n 3, 1) := by decide +kernel
theorem dL_discard_1 : decode cL_discard 1 = .ok (.iconst 0, 1) := by decide +kernel
theorem dL_discard_2 : decode cL_discard 2 = .ok (.aload_n 0, 1) := by decide +kernel
theorem dL_discard_3 : decode cL_discard 3 = .ok (.iload_n 1, 1) := by decide +kernel
theorem dL_discard_4 : decode cL_discard 4 = .ok (.iload_n 2, 1) := by decide +kernel
theorem dL_discard_5 : decode cL_discard 5 = .ok (.invokevirtual 79, 3) := by decide +kernel
theorem dL_discard_8 : decode cL_discard 8 = .ok (.i2l, 1) := by decide +kernel
theorem dL_discard_9 : decode cL_discard 9 = .ok (.lastore, 1) := by decide +kernel
theorem dL_discard_10 : decode cL_discard 10 = .ok (.goto 11, 3) := by decide +kernel
theorem dL_discard_13 : decode cL_discard 13 = .ok (.astore 4, 2) := by decide +kernel
theorem dL_discard_15 : decode cL_discard 15 = .ok (.iconst 1, 1) := by decide +kernel
theorem dL_discard_16 : decode cL_discard 16 = .ok (.ireturn, 1) := by decide +kernel
theorem dL_discard_17 : decode cL_discard 17 = .ok (.astore 4, 2) := by decide +kernel
theorem dL_discard_19 : decode cL_discard 19 = .ok (.iconst 2, 1) := by decide +kernel
theorem dL_discard_20 : decode cL_discard 20 = .ok (.ireturn, 1) := by decide +kernel
theorem dL_discard_21 : decode cL_discard 21 = .ok (.iconst 0, 1) := by decide +kernel
theorem dL_discard_22 : decode cL_discard 22 = .ok (.ireturn, 1) := by decide +kernel
theorem dL_law_0 : decode cL_law 0 = .ok (.new 8, 3) := by decide +kernel
theorem dL_law_3 : decode cL_law 3 = .ok (.dup, 1) := by decide +kernel
theorem dL_law_4 : decode cL_law 4 = .ok (.invokespecial 82, 3) := by decide +kernel
theorem dL_law_7 : decode cL_law 7 = .ok (.astore_n 1, 1) := by decide +kernel
theorem dL_law_8 : decode cL_law 8 = .ok (.new 83, 3) := by decide +kernel
theorem dL_law_11 : decode cL_law 11 = .ok (.dup, 1) := by decide +kernel
theorem dL_law_12 : decode cL_law 12 = .ok (.invokespecial 85, 3) := by decide +kernel
theorem dL_law_15 : decode cL_law 15 = .ok (.astore_n 2, 1) := by decide +kernel
theorem dL_law_16 : decode cL_law 16 = .ok (.iconst 1, 1) := by decide +kernel
theorem dL_law_17 : decode cL_law 17 = .ok (.newarray .long, 2) := by decide +kernel
theorem dL_law_19 : decode cL_law 19 = .ok (.astore_n 3, 1) := by decide +kernel
theorem dL_law_20 : decode cL_law 20 = .ok (.iconst 0, 1) := by decide +kernel
theorem dL_law_21 : decode cL_law 21 = .ok (.istore 4, 2) := by decide +kernel
theorem dL_law_23 : decode cL_law 23 = .ok (.iload 4, 2) := by decide +kernel
theorem dL_law_25 : decode cL_law 25 = .ok (.aload_n 0, 1) := by decide +kernel
theorem dL_law_26 : decode cL_law 26 = .ok (.arraylength, 1) := by decide +kernel
theorem dL_law_27 : decode cL_law 27 = .ok (.bipush 6, 2) := by decide +kernel
theorem dL_law_29 : decode cL_law 29 = .ok (.isub, 1) := by decide +kernel
theorem dL_law_30 : decode cL_law 30 = .ok (.if_icmp .gt 1505, 3) := by decide +kernel
theorem dL_law_33 : decode cL_law 33 = .ok (.aload_n 0, 1) := by decide +kernel
theorem dL_law_34 : decode cL_law 34 = .ok (.iload 4, 2) := by decide +kernel
theorem dL_law_36 : decode cL_law 36 = .ok (.iaload, 1) := by decide +kernel
theorem dL_law_37 : decode cL_law 37 = .ok (.bipush 31, 2) := by decide +kernel
theorem dL_law_39 : decode cL_law 39 = .ok (.iand, 1) := by decide +kernel
theorem dL_law_40 : decode cL_law 40 = .ok (.tableswitch 1489 0 24 #[116, 189, 245, 258, 314, 382, 462, 530, 543, 611, 679, 735, 791, 847, 922, 978, 1034, 1090, 1146, 1202, 1270, 1314, 1394, 1462, 1475], 116) := by decide +kernel
theorem dL_law_156 : decode cL_law 156 = .ok (.aload_n 1, 1) := by decide +kernel
theorem dL_law_157 : decode cL_law 157 = .ok (.aload_n 0, 1) := by decide +kernel
theorem dL_law_158 : decode cL_law 158 = .ok (.iload 4, 2) := by decide +kernel
theorem dL_law_160 : decode cL_law 160 = .ok (.iconst 1, 1) := by decide +kernel
theorem dL_law_161 : decode cL_law 161 = .ok (.iadd, 1) := by decide +kernel
theorem dL_law_162 : decode cL_law 162 = .ok (.iaload, 1) := by decide +kernel
theorem dL_law_163 : decode cL_law 163 = .ok (.aload_n 0, 1) := by decide +kernel
theorem dL_law_164 : decode cL_law 164 = .ok (.iload 4, 2) := by decide +kernel
theorem dL_law_166 : decode cL_law 166 = .ok (.iconst 2, 1) := by decide +kernel
theorem dL_law_167 : decode cL_law 167 = .ok (.iadd, 1) := by decide +kernel
theorem dL_law_168 : decode cL_law 168 = .ok (.iaload, 1) := by decide +kernel
theorem dL_law_169 : decode cL_law 169 = .ok (.aload_n 0, 1) := by decide +kernel
theorem dL_law_170 : decode cL_law 170 = .ok (.iload 4, 2) := by decide +kernel
theorem dL_law_172 : decode cL_law 172 = .ok (.iconst 3, 1) := by decide +kernel
theorem dL_law_173 : decode cL_law 173 = .ok (.iadd, 1) := by decide +kernel
theorem dL_law_174 : decode cL_law 174 = .ok (.iaload, 1) := by decide +kernel
theorem dL_law_175 : decode cL_law 175 = .ok (.aload_n 0, 1) := by decide +kernel
theorem dL_law_176 : decode cL_law 176 = .ok (.iload 4, 2) := by decide +kernel
theorem dL_law_178 : decode cL_law 178 = .ok (.iconst 4, 1) := by decide +kernel
theorem dL_law_179 : decode cL_law 179 = .ok (.iadd, 1) := by decide +kernel
theorem dL_law_180 : decode cL_law 180 = .ok (.iaload, 1) := by decide +kernel
theorem dL_law_181 : decode cL_law 181 = .ok (.aload_n 0, 1) := by decide +kernel
theorem dL_law_182 : decode cL_law 182 = .ok (.iload 4, 2) := by decide +kernel
theorem dL_law_184 : decode cL_law 184 = .ok (.iconst 5, 1) := by decide +kernel
theorem dL_law_185 : decode cL_law 185 = .ok (.iadd, 1) := by decide +kernel
theorem dL_law_186 : decode cL_law 186 = .ok (.iaload, 1) := by decide +kernel
theorem dL_law_187 : decode cL_law 187 = .ok (.invokevirtual 86, 3) := by decide +kernel
theorem dL_law_190 : decode cL_law 190 = .ok (.aload_n 2, 1) := by decide +kernel
theorem dL_law_191 : decode cL_law 191 = .ok (.aload_n 0, 1) := by decide +kernel
theorem dL_law_192 : decode cL_law 192 = .ok (.iload 4, 2) := by decide +kernel
theorem dL_law_194 : decode cL_law 194 = .ok (.iconst 1, 1) := by decide +kernel
theorem dL_law_195 : decode cL_law 195 = .ok (.iadd, 1) := by decide +kernel
theorem dL_law_196 : decode cL_law 196 = .ok (.iaload, 1) := by decide +kernel
theorem dL_law_197 : decode cL_law 197 = .ok (.aload_n 0, 1) := by decide +kernel
theorem dL_law_198 : decode cL_law 198 = .ok (.iload 4, 2) := by decide +kernel
theorem dL_law_200 : decode cL_law 200 = .ok (.iconst 2, 1) := by decide +kernel
theorem dL_law_201 : decode cL_law 201 = .ok (.iadd, 1) := by decide +kernel
theorem dL_law_202 : decode cL_law 202 = .ok (.iaload, 1) := by decide +kernel
theorem dL_law_203 : decode cL_law 203 = .ok (.aload_n 0, 1) := by decide +kernel
theorem dL_law_204 : decode cL_law 204 = .ok (.iload 4, 2) := by decide +kernel
theorem dL_law_206 : decode cL_law 206 = .ok (.iconst 3, 1) := by decide +kernel
theorem dL_law_207 : decode cL_law 207 = .ok (.iadd, 1) := by decide +kernel
theorem dL_law_208 : decode cL_law 208 = .ok (.iaload, 1) := by decide +kernel
theorem dL_law_209 : decode cL_law 209 = .ok (.aload_n 0, 1) := by decide +kernel
theorem dL_law_210 : decode cL_law 210 = .ok (.iload 4, 2) := by decide +kernel
theorem dL_law_212 : decode cL_law 212 = .ok (.iconst 4, 1) := by decide +kernel
theorem dL_law_213 : decode cL_law 213 = .ok (.iadd, 1) := by decide +kernel
theorem dL_law_214 : decode cL_law 214 = .ok (.iaload, 1) := by decide +kernel
theorem dL_law_215 : decode cL_law 215 = .ok (.aload_n 0, 1) := by decide +kernel
theorem dL_law_216 : decode cL_law 216 = .ok (.iload 4, 2) := by decide +kernel
theorem dL_law_218 : decode cL_law 218 = .ok (.iconst 5, 1) := by decide +kernel
theorem dL_law_219 : decode cL_law 219 = .ok (.iadd, 1) := by decide +kernel
theorem dL_law_220 : decode cL_law 220 = .ok (.iaload, 1) := by decide +kernel
theorem dL_law_221 : decode cL_law 221 = .ok (.invokevirtual 90, 3) := by decide +kernel
theorem dL_law_224 : decode cL_law 224 = .ok (.if_icmp .eq 1305, 3) := by decide +kernel
theorem dL_law_227 : decode cL_law 227 = .ok (.iconst 0, 1) := by decide +kernel
theorem dL_law_228 : decode cL_law 228 = .ok (.ireturn, 1) := by decide +kernel
theorem dL_law_229 : decode cL_law 229 = .ok (.aload_n 1, 1) := by decide +kernel
theorem dL_law_230 : decode cL_law 230 = .ok (.aload_n 0, 1) := by decide +kernel
theorem dL_law_231 : decode cL_law 231 = .ok (.iload 4, 2) := by decide +kernel
theorem dL_law_233 : decode cL_law 233 = .ok (.iconst 1, 1) := by decide +kernel
theorem dL_law_234 : decode cL_law 234 = .ok (.iadd, 1) := by decide +kernel
theorem dL_law_235 : decode cL_law 235 = .ok (.iaload, 1) := by decide +kernel
theorem dL_law_236 : decode cL_law 236 = .ok (.aload_n 3, 1) := by decide +kernel
theorem dL_law_237 : decode cL_law 237 = .ok (.invokestatic 91, 3) := by decide +kernel
theorem dL_law_240 : decode cL_law 240 = .ok (.istore 5, 2) := by decide +kernel
theorem dL_law_242 : decode cL_law 242 = .ok (.aload_n 2, 1) := by decide +kernel
theorem dL_law_243 : decode cL_law 243 = .ok (.aload_n 0, 1) := by decide +kernel
theorem dL_law_244 : decode cL_law 244 = .ok (.iload 4, 2) := by decide +kernel
theorem dL_law_246 : decode cL_law 246 = .ok (.iconst 1, 1) := by decide +kernel
theorem dL_law_247 : decode cL_law 247 = .ok (.iadd, 1) := by decide +kernel
theorem dL_law_248 : decode cL_law 248 = .ok (.iaload, 1) := by decide +kernel
theorem dL_law_249 : decode cL_law 249 = .ok (.invokevirtual 96, 3) := by decide +kernel
theorem dL_law_252 : decode cL_law 252 = .ok (.istore 6, 2) := by decide +kernel
theorem dL_law_254 : decode cL_law 254 = .ok (.aload_n 2, 1) := by decide +kernel
theorem dL_law_255 : decode cL_law 255 = .ok (.invokevirtual 97, 3) := by decide +kernel
theorem dL_law_258 : decode cL_law 258 = .ok (.iload 5, 2) := by decide +kernel
theorem dL_law_260 : decode cL_law 260 = .ok (.if_icmp .eq 5, 3) := by decide +kernel
theorem dL_law_263 : decode cL_law 263 = .ok (.iconst 0, 1) := by decide +kernel
theorem dL_law_264 : decode cL_law 264 = .ok (.ireturn, 1) := by decide +kernel
theorem dL_law_265 : decode cL_law 265 = .ok (.iload 5, 2) := by decide +kernel
theorem dL_law_267 : decode cL_law 267 = .ok (.ifCond .ne 15, 3) := by decide +kernel
theorem dL_law_270 : decode cL_law 270 = .ok (.aload_n 3, 1) := by decide +kernel
theorem dL_law_271 : decode cL_law 271 = .ok (.iconst 0, 1) := by decide +kernel
theorem dL_law_272 : decode cL_law 272 = .ok (.laload, 1) := by decide +kernel
theorem dL_law_273 : decode cL_law 273 = .ok (.iload 6, 2) := by decide +kernel
theorem dL_law_275 : decode cL_law 275 = .ok (.i2l, 1) := by decide +kernel
theorem dL_law_276 : decode cL_law 276 = .ok (.lcmp, 1) := by decide +kernel
theorem dL_law_277 : decode cL_law 277 = .ok (.ifCond .eq 5, 3) := by decide +kernel
theorem dL_law_280 : decode cL_law 280 = .ok (.iconst 0, 1) := by decide +kernel
theorem dL_law_281 : decode cL_law 281 = .ok (.ireturn, 1) := by decide +kernel
theorem dL_law_282 : decode cL_law 282 = .ok (.goto 1247, 3) := by decide +kernel
theorem dL_law_285 : decode cL_law 285 = .ok (.aload_n 1, 1) := by decide +kernel
theorem dL_law_286 : decode cL_law 286 = .ok (.invokevirtual 100, 3) := by decide +kernel
theorem dL_law_289 : decode cL_law 289 = .ok (.aload_n 2, 1) := by decide +kernel
theorem dL_law_290 : decode cL_law 290 = .ok (.invokevirtual 103, 3) := by decide +kernel
theorem dL_law_293 : decode cL_law 293 = .ok (.if_icmp .eq 1236, 3) := by decide +kernel
theorem dL_law_296 : decode cL_law 296 = .ok (.iconst 0, 1) := by decide +kernel
theorem dL_law_297 : decode cL_law 297 = .ok (.ireturn, 1) := by decide +kernel
theorem dL_law_298 : decode cL_law 298 = .ok (.aload_n 1, 1) := by decide +kernel
theorem dL_law_299 : decode cL_law 299 = .ok (.aload_n 0, 1) := by decide +kernel
theorem dL_law_300 : decode cL_law 300 = .ok (.iload 4, 2) := by decide +kernel
theorem dL_law_302 : decode cL_law 302 = .ok (.iconst 1, 1) := by decide +kernel
theorem dL_law_303 : decode cL_law 303 = .ok (.iadd, 1) := by decide +kernel
theorem dL_law_304 : decode cL_law 304 = .ok (.iaload, 1) := by decide +kernel
theorem dL_law_305 : decode cL_law 305 = .ok (.aload_n 3, 1) := by decide +kernel
theorem dL_law_306 : decode cL_law 306 = .ok (.invokestatic 104, 3) := by decide +kernel
theorem dL_law_309 : decode cL_law 309 = .ok (.istore 5, 2) := by decide +kernel
theorem dL_law_311 : decode cL_law 311 = .ok (.aload_n 2, 1) := by decide +kernel
theorem dL_law_312 : decode cL_law 312 = .ok (.aload_n 0, 1) := by decide +kernel
theorem dL_law_313 : decode cL_law 313 = .ok (.iload 4, 2) := by decide +kernel
theorem dL_law_315 : decode cL_law 315 = .ok (.iconst 1, 1) := by decide +kernel
theorem dL_law_316 : decode cL_law 316 = .ok (.iadd, 1) := by decide +kernel
theorem dL_law_317 : decode cL_law 317 = .ok (.iaload, 1) := by decide +kernel
theorem dL_law_318 : decode cL_law 318 = .ok (.invokevirtual 106, 3) := by decide +kernel
theorem dL_law_321 : decode cL_law 321 = .ok (.istore 6, 2) := by decide +kernel
theorem dL_law_323 : decode cL_law 323 = .ok (.aload_n 2, 1) := by decide +kernel
theorem dL_law_324 : decode cL_law 324 = .ok (.invokevirtual 97, 3) := by decide +kernel
theorem dL_law_327 : decode cL_law 327 = .ok (.iload 5, 2) := by decide +kernel
theorem dL_law_329 : decode cL_law 329 = .ok (.if_icmp .eq 5, 3) := by decide +kernel
theorem dL_law_332 : decode cL_law 332 = .ok (.iconst 0, 1) := by decide +kernel
theorem dL_law_333 : decode cL_law 333 = .ok (.ireturn, 1) := by decide +kernel
theorem dL_law_334 : decode cL_law 334 = .ok (.iload 5, 2) := by decide +kernel
theorem dL_law_336 : decode cL_law 336 = .ok (.ifCond .ne 15, 3) := by decide +kernel
theorem dL_law_339 : decode cL_law 339 = .ok (.aload_n 3, 1) := by decide +kernel
theorem dL_law_340 : decode cL_law 340 = .ok (.iconst 0, 1) := by decide +kernel
theorem dL_law_341 : decode cL_law 341 = .ok (.laload, 1) := by decide +kernel
theorem dL_law_342 : decode cL_law 342 = .ok (.iload 6, 2) := by decide +kernel
theorem dL_law_344 : decode cL_law 344 = .ok (.i2l, 1) := by decide +kernel
theorem dL_law_345 : decode cL_law 345 = .ok (.lcmp, 1) := by decide +kernel
theorem dL_law_346 : decode cL_law 346 = .ok (.ifCond .eq 5, 3) := by decide +kernel
theorem dL_law_349 : decode cL_law 349 = .ok (.iconst 0, 1) := by decide +kernel
theorem dL_law_350 : decode cL_law 350 = .ok (.ireturn, 1) := by decide +kernel
theorem dL_law_351 : decode cL_law 351 = .ok (.goto 1178, 3) := by decide +kernel
theorem dL_law_354 : decode cL_law 354 = .ok (.aload_n 1, 1) := by decide +kernel
theorem dL_law_355 : decode cL_law 355 = .ok (.aload_n 0, 1) := by decide +kernel
theorem dL_law_356 : decode cL_law 356 = .ok (.iload 4, 2) := by decide +kernel
theorem dL_law_358 : decode cL_law 358 = .ok (.iconst 1, 1) := by decide +kernel
theorem dL_law_359 : decode cL_law 359 = .ok (.iadd, 1) := by decide +kernel
theorem dL_law_360 : decode cL_law 360 = .ok (.iaload, 1) := by decide +kernel
theorem dL_law_361 : decode cL_law 361 = .ok (.aload_n 0, 1) := by decide +kernel
theorem dL_law_362 : decode cL_law 362 = .ok (.iload 4, 2) := by decide +kernel
theorem dL_law_364 : decode cL_law 364 = .ok (.iconst 2, 1) := by decide +kernel
theorem dL_law_365 : decode cL_law 365 = .ok (.iadd, 1) := by decide +kernel
theorem dL_law_366 : decode cL_law 366 = .ok (.iaload, 1) := by decide +kernel
theorem dL_law_367 : decode cL_law 367 = .ok (.aload_n 3, 1) := by decide +kernel
theorem dL_law_368 : decode cL_law 368 = .ok (.invokestatic 107, 3) := by decide +kernel
theorem dL_law_371 : decode cL_law 371 = .ok (.istore 5, 2) := by decide +kernel
theorem dL_law_373 : decode cL_law 373 = .ok (.aload_n 2, 1) := by decide +kernel
theorem dL_law_374 : decode cL_law 374 = .ok (.aload_n 0, 1) := by decide +kernel
theorem dL_law_375 : decode cL_law 375 = .ok (.iload 4, 2) := by decide +kernel
theorem dL_law_377 : decode cL_law 377 = .ok (.iconst 1, 1) := by decide +kernel
theorem dL_law_378 : decode cL_law 378 = .ok (.iadd, 1) := by decide +kernel
theorem dL_law_379 : decode cL_law 379 = .ok (.iaload, 1) := by decide +kernel
theorem dL_law_380 : decode cL_law 380 = .ok (.aload_n 0, 1) := by decide +kernel
theorem dL_law_381 : decode cL_law 381 = .ok (.iload 4, 2) := by decide +kernel
theorem dL_law_383 : decode cL_law 383 = .ok (.iconst 2, 1) := by decide +kernel
theorem dL_law_384 : decode cL_law 384 = .ok (.iadd, 1) := by decide +kernel
theorem dL_law_385 : decode cL_law 385 = .ok (.iaload, 1) := by decide +kernel
theorem dL_law_386 : decode cL_law 386 = .ok (.invokevirtual 110, 3) := by decide +kernel
theorem dL_law_389 : decode cL_law 389 = .ok (.istore 6, 2) := by decide +kernel
theorem dL_law_391 : decode cL_law 391 = .ok (.aload_n 2, 1) := by decide +kernel
theorem dL_law_392 : decode cL_law 392 = .ok (.invokevirtual 97, 3) := by decide +kernel
theorem dL_law_395 : decode cL_law 395 = .ok (.iload 5, 2) := by decide +kernel
theorem dL_law_397 : decode cL_law 397 = .ok (.if_icmp .eq 5, 3) := by decide +kernel
theorem dL_law_400 : decode cL_law 400 = .ok (.iconst 0, 1) := by decide +kernel
theorem dL_law_401 : decode cL_law 401 = .ok (.ireturn, 1) := by decide +kernel
theorem dL_law_402 : decode cL_law 402 = .ok (.iload 5, 2) := by decide +kernel
theorem dL_law_404 : decode cL_law 404 = .ok (.ifCond .ne 15, 3) := by decide +kernel
theorem dL_law_407 : decode cL_law 407 = .ok (.aload_n 3, 1) := by decide +kernel
theorem dL_law_408 : decode cL_law 408 = .ok (.iconst 0, 1) := by decide +kernel
theorem dL_law_409 : decode cL_law 409 = .ok (.laload, 1) := by decide +kernel
theorem dL_law_410 : decode cL_law 410 = .ok (.iload 6, 2) := by decide +kernel
theorem dL_law_412 : decode cL_law 412 = .ok (.i2l, 1) := by decide +kernel
theorem dL_law_413 : decode cL_law 413 = .ok (.lcmp, 1) := by decide +kernel
theorem dL_law_414 : decode cL_law 414 = .ok (.ifCond .eq 5, 3) := by decide +kernel
theorem dL_law_417 : decode cL_law 417 = .ok (.iconst 0, 1) := by decide +kernel
theorem dL_law_418 : decode cL_law 418 = .ok (.ireturn, 1) := by decide +kernel
theorem dL_law_419 : decode cL_law 419 = .ok (.goto 1110, 3) := by decide +kernel
theorem dL_law_422 : decode cL_law 422 = .ok (.aload_n 1, 1) := by decide +kernel
theorem dL_law_423 : decode cL_law 423 = .ok (.aload_n 0, 1) := by decide +kernel
theorem dL_law_424 : decode cL_law 424 = .ok (.iload 4, 2) := by decide +kernel
theorem dL_law_426 : decode cL_law 426 = .ok (.iconst 1, 1) := by decide +kernel
theorem dL_law_427 : decode cL_law 427 = .ok (.iadd, 1) := by decide +kernel
theorem dL_law_428 : decode cL_law 428 = .ok (.iaload, 1) := by decide +kernel
theorem dL_law_429 : decode cL_law 429 = .ok (.aload_n 0, 1) := by decide +kernel
theorem dL_law_430 : decode cL_law 430 = .ok (.iload 4, 2) := by decide +kernel
theorem dL_law_432 : decode cL_law 432 = .ok (.iconst 2, 1) := by decide +kernel
theorem dL_law_433 : decode cL_law 433 = .ok (.iadd, 1) := by decide +kernel
theorem dL_law_434 : decode cL_law 434 = .ok (.iaload, 1) := by decide +kernel
theorem dL_law_435 : decode cL_law 435 = .ok (.aload_n 0, 1) := by decide +kernel
theorem dL_law_436 : decode cL_law 436 = .ok (.iload 4, 2) := by decide +kernel
theorem dL_law_438 : decode cL_law 438 = .ok (.iconst 3, 1) := by decide +kernel
theorem dL_law_439 : decode cL_law 439 = .ok (.iadd, 1) := by decide +kernel
theorem dL_law_440 : decode cL_law 440 = .ok (.iaload, 1) := by decide +kernel
theorem dL_law_441 : decode cL_law 441 = .ok (.aload_n 3, 1) := by decide +kernel
theorem dL_law_442 : decode cL_law 442 = .ok (.invokestatic 111, 3) := by decide +kernel
theorem dL_law_445 : decode cL_law 445 = .ok (.istore 5, 2) := by decide +kernel
theorem dL_law_447 : decode cL_law 447 = .ok (.aload_n 2, 1) := by decide +kernel
theorem dL_law_448 : decode cL_law 448 = .ok (.aload_n 0, 1) := by decide +kernel
theorem dL_law_449 : decode cL_law 449 = .ok (.iload 4, 2) := by decide +kernel
theorem dL_law_451 : decode cL_law 451 = .ok (.iconst 1, 1) := by decide +kernel
theorem dL_law_452 : decode cL_law 452 = .ok (.iadd, 1) := by decide +kernel
theorem dL_law_453 : decode cL_law 453 = .ok (.iaload, 1) := by decide +kernel
theorem dL_law_454 : decode cL_law 454 = .ok (.aload_n 0, 1) := by decide +kernel
theorem dL_law_455 : decode cL_law 455 = .ok (.iload 4, 2) := by decide +kernel
theorem dL_law_457 : decode cL_law 457 = .ok (.iconst 2, 1) := by decide +kernel
theorem dL_law_458 : decode cL_law 458 = .ok (.iadd, 1) := by decide +kernel
theorem dL_law_459 : decode cL_law 459 = .ok (.iaload, 1) := by decide +kernel
theorem dL_law_460 : decode cL_law 460 = .ok (.aload_n 0, 1) := by decide +kernel
theorem dL_law_461 : decode cL_law 461 = .ok (.iload 4, 2) := by decide +kernel
theorem dL_law_463 : decode cL_law 463 = .ok (.iconst 3, 1) := by decide +kernel
theorem dL_law_464 : decode cL_law 464 = .ok (.iadd, 1) := by decide +kernel
theorem dL_law_465 : decode cL_law 465 = .ok (.iaload, 1) := by decide +kernel
theorem dL_law_466 : decode cL_law 466 = .ok (.invokevirtual 114, 3) := by decide +kernel
theorem dL_law_469 : decode cL_law 469 = .ok (.istore 6, 2) := by decide +kernel
theorem dL_law_471 : decode cL_law 471 = .ok (.aload_n 2, 1) := by decide +kernel
theorem dL_law_472 : decode cL_law 472 = .ok (.invokevirtual 97, 3) := by decide +kernel
theorem dL_law_475 : decode cL_law 475 = .ok (.iload 5, 2) := by decide +kernel
theorem dL_law_477 : decode cL_law 477 = .ok (.if_icmp .eq 5, 3) := by decide +kernel
theorem dL_law_480 : decode cL_law 480 = .ok (.iconst 0, 1) := by decide +kernel
theorem dL_law_481 : decode cL_law 481 = .ok (.ireturn, 1) := by decide +kernel
theorem dL_law_482 : decode cL_law 482 = .ok (.iload 5, 2) := by decide +kernel
theorem dL_law_484 : decode cL_law 484 = .ok (.ifCond .ne 15, 3) := by decide +kernel
theorem dL_law_487 : decode cL_law 487 = .ok (.aload_n 3, 1) := by decide +kernel
theorem dL_law_488 : decode cL_law 488 = .ok (.iconst 0, 1) := by decide +kernel
theorem dL_law_489 : decode cL_law 489 = .ok (.laload, 1) := by decide +kernel
theorem dL_law_490 : decode cL_law 490 = .ok (.iload 6, 2) := by decide +kernel
theorem dL_law_492 : decode cL_law 492 = .ok (.i2l, 1) := by decide +kernel
theorem dL_law_493 : decode cL_law 493 = .ok (.lcmp, 1) := by decide +kernel
theorem dL_law_494 : decode cL_law 494 = .ok (.ifCond .eq 5, 3) := by decide +kernel
theorem dL_law_497 : decode cL_law 497 = .ok (.iconst 0, 1) := by decide +kernel
theorem dL_law_498 : decode cL_law 498 = .ok (.ireturn, 1) := by decide +kernel
theorem dL_law_499 : decode cL_law 499 = .ok (.goto 1030, 3) := by decide +kernel
theorem dL_law_502 : decode cL_law 502 = .ok (.aload_n 1, 1) := by decide +kernel
theorem dL_law_503 : decode cL_law 503 = .ok (.aload_n 0, 1) := by decide +kernel
theorem dL_law_504 : decode cL_law 504 = .ok (.iload 4, 2) := by decide +kernel
theorem dL_law_506 : decode cL_law 506 = .ok (.iconst 1, 1) := by decide +kernel
theorem dL_law_507 : decode cL_law 507 = .ok (.iadd, 1) := by decide +kernel
theorem dL_law_508 : decode cL_law 508 = .ok (.iaload, 1) := by decide +kernel
theorem dL_law_509 : decode cL_law 509 = .ok (.aload_n 0, 1) := by decide +kernel
theorem dL_law_510 : decode cL_law 510 = .ok (.iload 4, 2) := by decide +kernel
theorem dL_law_512 : decode cL_law 512 = .ok (.iconst 2, 1) := by decide +kernel
theorem dL_law_513 : decode cL_law 513 = .ok (.iadd, 1) := by decide +kernel
theorem dL_law_514 : decode cL_law 514 = .ok (.iaload, 1) := by decide +kernel
theorem dL_law_515 : decode cL_law 515 = .ok (.aload_n 3, 1) := by decide +kernel
theorem dL_law_516 : decode cL_law 516 = .ok (.invokestatic 115, 3) := by decide +kernel
theorem dL_law_519 : decode cL_law 519 = .ok (.istore 5, 2) := by decide +kernel
theorem dL_law_521 : decode cL_law 521 = .ok (.aload_n 2, 1) := by decide +kernel
theorem dL_law_522 : decode cL_law 522 = .ok (.aload_n 0, 1) := by decide +kernel
theorem dL_law_523 : decode cL_law 523 = .ok (.iload 4, 2) := by decide +kernel
theorem dL_law_525 : decode cL_law 525 = .ok (.iconst 1, 1) := by decide +kernel
theorem dL_law_526 : decode cL_law 526 = .ok (.iadd, 1) := by decide +kernel
theorem dL_law_527 : decode cL_law 527 = .ok (.iaload, 1) := by decide +kernel
theorem dL_law_528 : decode cL_law 528 = .ok (.aload_n 0, 1) := by decide +kernel
theorem dL_law_529 : decode cL_law 529 = .ok (.iload 4, 2) := by decide +kernel
theorem dL_law_531 : decode cL_law 531 = .ok (.iconst 2, 1) := by decide +kernel
theorem dL_law_532 : decode cL_law 532 = .ok (.iadd, 1) := by decide +kernel
theorem dL_law_533 : decode cL_law 533 = .ok (.iaload, 1) := by decide +kernel
theorem dL_law_534 : decode cL_law 534 = .ok (.invokevirtual 117, 3) := by decide +kernel
theorem dL_law_537 : decode cL_law 537 = .ok (.istore 6, 2) := by decide +kernel
theorem dL_law_539 : decode cL_law 539 = .ok (.aload_n 2, 1) := by decide +kernel
theorem dL_law_540 : decode cL_law 540 = .ok (.invokevirtual 97, 3) := by decide +kernel
theorem dL_law_543 : decode cL_law 543 = .ok (.iload 5, 2) := by decide +kernel
theorem dL_law_545 : decode cL_law 545 = .ok (.if_icmp .eq 5, 3) := by decide +kernel
theorem dL_law_548 : decode cL_law 548 = .ok (.iconst 0, 1) := by decide +kernel
theorem dL_law_549 : decode cL_law 549 = .ok (.ireturn, 1) := by decide +kernel
theorem dL_law_550 : decode cL_law 550 = .ok (.iload 5, 2) := by decide +kernel
theorem dL_law_552 : decode cL_law 552 = .ok (.ifCond .ne 15, 3) := by decide +kernel
theorem dL_law_555 : decode cL_law 555 = .ok (.aload_n 3, 1) := by decide +kernel
theorem dL_law_556 : decode cL_law 556 = .ok (.iconst 0, 1) := by decide +kernel
theorem dL_law_557 : decode cL_law 557 = .ok (.laload, 1) := by decide +kernel
theorem dL_law_558 : decode cL_law 558 = .ok (.iload 6, 2) := by decide +kernel
theorem dL_law_560 : decode cL_law 560 = .ok (.i2l, 1) := by decide +kernel
theorem dL_law_561 : decode cL_law 561 = .ok (.lcmp, 1) := by decide +kernel
theorem dL_law_562 : decode cL_law 562 = .ok (.ifCond .eq 5, 3) := by decide +kernel
theorem dL_law_565 : decode cL_law 565 = .ok (.iconst 0, 1) := by decide +kernel
theorem dL_law_566 : decode cL_law 566 = .ok (.ireturn, 1) := by decide +kernel
theorem dL_law_567 : decode cL_law 567 = .ok (.goto 962, 3) := by decide +kernel
theorem dL_law_570 : decode cL_law 570 = .ok (.aload_n 1, 1) := by decide +kernel
theorem dL_law_571 : decode cL_law 571 = .ok (.invokevirtual 118, 3) := by decide +kernel
theorem dL_law_574 : decode cL_law 574 = .ok (.aload_n 2, 1) := by decide +kernel
theorem dL_law_575 : decode cL_law 575 = .ok (.invokevirtual 121, 3) := by decide +kernel
theorem dL_law_578 : decode cL_law 578 = .ok (.if_icmp .eq 951, 3) := by decide +kernel
theorem dL_law_581 : decode cL_law 581 = .ok (.iconst 0, 1) := by decide +kernel
theorem dL_law_582 : decode cL_law 582 = .ok (.ireturn, 1) := by decide +kernel
theorem dL_law_583 : decode cL_law 583 = .ok (.aload_n 1, 1) := by decide +kernel
theorem dL_law_584 : decode cL_law 584 = .ok (.aload_n 0, 1) := by decide +kernel
theorem dL_law_585 : decode cL_law 585 = .ok (.iload 4, 2) := by decide +kernel
theorem dL_law_587 : decode cL_law 587 = .ok (.iconst 1, 1) := by decide +kernel
theorem dL_law_588 : decode cL_law 588 = .ok (.iadd, 1) := by decide +kernel
theorem dL_law_589 : decode cL_law 589 = .ok (.iaload, 1) := by decide +kernel
theorem dL_law_590 : decode cL_law 590 = .ok (.aload_n 0, 1) := by decide +kernel
theorem dL_law_591 : decode cL_law 591 = .ok (.iload 4, 2) := by decide +kernel
theorem dL_law_593 : decode cL_law 593 = .ok (.iconst 2, 1) := by decide +kernel
theorem dL_law_594 : decode cL_law 594 = .ok (.iadd, 1) := by decide +kernel
theorem dL_law_595 : decode cL_law 595 = .ok (.iaload, 1) := by decide +kernel
theorem dL_law_596 : decode cL_law 596 = .ok (.aload_n 3, 1) := by decide +kernel
theorem dL_law_597 : decode cL_law 597 = .ok (.invokestatic 122, 3) := by decide +kernel
theorem dL_law_600 : decode cL_law 600 = .ok (.istore 5, 2) := by decide +kernel
theorem dL_law_602 : decode cL_law 602 = .ok (.aload_n 2, 1) := by decide +kernel
theorem dL_law_603 : decode cL_law 603 = .ok (.aload_n 0, 1) := by decide +kernel
theorem dL_law_604 : decode cL_law 604 = .ok (.iload 4, 2) := by decide +kernel
theorem dL_law_606 : decode cL_law 606 = .ok (.iconst 1, 1) := by decide +kernel
theorem dL_law_607 : decode cL_law 607 = .ok (.iadd, 1) := by decide +kernel
theorem dL_law_608 : decode cL_law 608 = .ok (.iaload, 1) := by decide +kernel
theorem dL_law_609 : decode cL_law 609 = .ok (.aload_n 0, 1) := by decide +kernel
theorem dL_law_610 : decode cL_law 610 = .ok (.iload 4, 2) := by decide +kernel
theorem dL_law_612 : decode cL_law 612 = .ok (.iconst 2, 1) := by decide +kernel
theorem dL_law_613 : decode cL_law 613 = .ok (.iadd, 1) := by decide +kernel
theorem dL_law_614 : decode cL_law 614 = .ok (.iaload, 1) := by decide +kernel
theorem dL_law_615 : decode cL_law 615 = .ok (.invokevirtual 124, 3) := by decide +kernel
theorem dL_law_618 : decode cL_law 618 = .ok (.istore 6, 2) := by decide +kernel
theorem dL_law_620 : decode cL_law 620 = .ok (.aload_n 2, 1) := by decide +kernel
theorem dL_law_621 : decode cL_law 621 = .ok (.invokevirtual 97, 3) := by decide +kernel
theorem dL_law_624 : decode cL_law 624 = .ok (.iload 5, 2) := by decide +kernel
theorem dL_law_626 : decode cL_law 626 = .ok (.if_icmp .eq 5, 3) := by decide +kernel
theorem dL_law_629 : decode cL_law 629 = .ok (.iconst 0, 1) := by decide +kernel
theorem dL_law_630 : decode cL_law 630 = .ok (.ireturn, 1) := by decide +kernel
theorem dL_law_631 : decode cL_law 631 = .ok (.iload 5, 2) := by decide +kernel
theorem dL_law_633 : decode cL_law 633 = .ok (.ifCond .ne 15, 3) := by decide +kernel
theorem dL_law_636 : decode cL_law 636 = .ok (.aload_n 3, 1) := by decide +kernel
theorem dL_law_637 : decode cL_law 637 = .ok (.iconst 0, 1) := by decide +kernel
theorem dL_law_638 : decode cL_law 638 = .ok (.laload, 1) := by decide +kernel
theorem dL_law_639 : decode cL_law 639 = .ok (.iload 6, 2) := by decide +kernel
theorem dL_law_641 : decode cL_law 641 = .ok (.i2l, 1) := by decide +kernel
theorem dL_law_642 : decode cL_law 642 = .ok (.lcmp, 1) := by decide +kernel
theorem dL_law_643 : decode cL_law 643 = .ok (.ifCond .eq 5, 3) := by decide +kernel
theorem dL_law_646 : decode cL_law 646 = .ok (.iconst 0, 1) := by decide +kernel
theorem dL_law_647 : decode cL_law 647 = .ok (.ireturn, 1) := by decide +kernel
theorem dL_law_648 : decode cL_law 648 = .ok (.goto 881, 3) := by decide +kernel
theorem dL_law_651 : decode cL_law 651 = .ok (.aload_n 1, 1) := by decide +kernel
theorem dL_law_652 : decode cL_law 652 = .ok (.aload_n 0, 1) := by decide +kernel
theorem dL_law_653 : decode cL_law 653 = .ok (.iload 4, 2) := by decide +kernel
theorem dL_law_655 : decode cL_law 655 = .ok (.iconst 1, 1) := by decide +kernel
theorem dL_law_656 : decode cL_law 656 = .ok (.iadd, 1) := by decide +kernel
theorem dL_law_657 : decode cL_law 657 = .ok (.iaload, 1) := by decide +kernel
theorem dL_law_658 : decode cL_law 658 = .ok (.aload_n 0, 1) := by decide +kernel
theorem dL_law_659 : decode cL_law 659 = .ok (.iload 4, 2) := by decide +kernel
theorem dL_law_661 : decode cL_law 661 = .ok (.iconst 2, 1) := by decide +kernel
theorem dL_law_662 : decode cL_law 662 = .ok (.iadd, 1) := by decide +kernel
theorem dL_law_663 : decode cL_law 663 = .ok (.iaload, 1) := by decide +kernel
theorem dL_law_664 : decode cL_law 664 = .ok (.aload_n 3, 1) := by decide +kernel
theorem dL_law_665 : decode cL_law 665 = .ok (.invokestatic 125, 3) := by decide +kernel
theorem dL_law_668 : decode cL_law 668 = .ok (.istore 5, 2) := by decide +kernel
theorem dL_law_670 : decode cL_law 670 = .ok (.aload_n 2, 1) := by decide +kernel
theorem dL_law_671 : decode cL_law 671 = .ok (.aload_n 0, 1) := by decide +kernel
theorem dL_law_672 : decode cL_law 672 = .ok (.iload 4, 2) := by decide +kernel
theorem dL_law_674 : decode cL_law 674 = .ok (.iconst 1, 1) := by decide +kernel
theorem dL_law_675 : decode cL_law 675 = .ok (.iadd, 1) := by decide +kernel
theorem dL_law_676 : decode cL_law 676 = .ok (.iaload, 1) := by decide +kernel
theorem dL_law_677 : decode cL_law 677 = .ok (.aload_n 0, 1) := by decide +kernel
theorem dL_law_678 : decode cL_law 678 = .ok (.iload 4, 2) := by decide +kernel
theorem dL_law_680 : decode cL_law 680 = .ok (.iconst 2, 1) := by decide +kernel
theorem dL_law_681 : decode cL_law 681 = .ok (.iadd, 1) := by decide +kernel
theorem dL_law_682 : decode cL_law 682 = .ok (.iaload, 1) := by decide +kernel
theorem dL_law_683 : decode cL_law 683 = .ok (.invokevirtual 127, 3) := by decide +kernel
theorem dL_law_686 : decode cL_law 686 = .ok (.istore 6, 2) := by decide +kernel
theorem dL_law_688 : decode cL_law 688 = .ok (.aload_n 2, 1) := by decide +kernel
theorem dL_law_689 : decode cL_law 689 = .ok (.invokevirtual 97, 3) := by decide +kernel
theorem dL_law_692 : decode cL_law 692 = .ok (.iload 5, 2) := by decide +kernel
theorem dL_law_694 : decode cL_law 694 = .ok (.if_icmp .eq 5, 3) := by decide +kernel
theorem dL_law_697 : decode cL_law 697 = .ok (.iconst 0, 1) := by decide +kernel
theorem dL_law_698 : decode cL_law 698 = .ok (.ireturn, 1) := by decide +kernel
theorem dL_law_699 : decode cL_law 699 = .ok (.iload 5, 2) := by decide +kernel
theorem dL_law_701 : decode cL_law 701 = .ok (.ifCond .ne 15, 3) := by decide +kernel
theorem dL_law_704 : decode cL_law 704 = .ok (.aload_n 3, 1) := by decide +kernel
theorem dL_law_705 : decode cL_law 705 = .ok (.iconst 0, 1) := by decide +kernel
theorem dL_law_706 : decode cL_law 706 = .ok (.laload, 1) := by decide +kernel
theorem dL_law_707 : decode cL_law 707 = .ok (.iload 6, 2) := by decide +kernel
theorem dL_law_709 : decode cL_law 709 = .ok (.i2l, 1) := by decide +kernel
theorem dL_law_710 : decode cL_law 710 = .ok (.lcmp, 1) := by decide +kernel
theorem dL_law_711 : decode cL_law 711 = .ok (.ifCond .eq 5, 3) := by decide +kernel
theorem dL_law_714 : decode cL_law 714 = .ok (.iconst 0, 1) := by decide +kernel
theorem dL_law_715 : decode cL_law 715 = .ok (.ireturn, 1) := by decide +kernel
theorem dL_law_716 : decode cL_law 716 = .ok (.goto 813, 3) := by decide +kernel
theorem dL_law_719 : decode cL_law 719 = .ok (.aload_n 1, 1) := by decide +kernel
theorem dL_law_720 : decode cL_law 720 = .ok (.aload_n 0, 1) := by decide +kernel
theorem dL_law_721 : decode cL_law 721 = .ok (.iload 4, 2) := by decide +kernel
theorem dL_law_723 : decode cL_law 723 = .ok (.iconst 1, 1) := by decide +kernel
theorem dL_law_724 : decode cL_law 724 = .ok (.iadd, 1) := by decide +kernel
theorem dL_law_725 : decode cL_law 725 = .ok (.iaload, 1) := by decide +kernel
theorem dL_law_726 : decode cL_law 726 = .ok (.aload_n 3, 1) := by decide +kernel
theorem dL_law_727 : decode cL_law 727 = .ok (.invokestatic 128, 3) := by decide +kernel
theorem dL_law_730 : decode cL_law 730 = .ok (.istore 5, 2) := by decide +kernel
theorem dL_law_732 : decode cL_law 732 = .ok (.aload_n 2, 1) := by decide +kernel
theorem dL_law_733 : decode cL_law 733 = .ok (.aload_n 0, 1) := by decide +kernel
theorem dL_law_734 : decode cL_law 734 = .ok (.iload 4, 2) := by decide +kernel
theorem dL_law_736 : decode cL_law 736 = .ok (.iconst 1, 1) := by decide +kernel
theorem dL_law_737 : decode cL_law 737 = .ok (.iadd, 1) := by decide +kernel
theorem dL_law_738 : decode cL_law 738 = .ok (.iaload, 1) := by decide +kernel
theorem dL_law_739 : decode cL_law 739 = .ok (.invokevirtual 130, 3) := by decide +kernel
theorem dL_law_742 : decode cL_law 742 = .ok (.istore 6, 2) := by decide +kernel
theorem dL_law_744 : decode cL_law 744 = .ok (.aload_n 2, 1) := by decide +kernel
theorem dL_law_745 : decode cL_law 745 = .ok (.invokevirtual 97, 3) := by decide +kernel
theorem dL_law_748 : decode cL_law 748 = .ok (.iload 5, 2) := by decide +kernel
theorem dL_law_750 : decode cL_law 750 = .ok (.if_icmp .eq 5, 3) := by decide +kernel
theorem dL_law_753 : decode cL_law 753 = .ok (.iconst 0, 1) := by decide +kernel
theorem dL_law_754 : decode cL_law 754 = .ok (.ireturn, 1) := by decide +kernel
theorem dL_law_755 : decode cL_law 755 = .ok (.iload 5, 2) := by decide +kernel
theorem dL_law_757 : decode cL_law 757 = .ok (.ifCond .ne 15, 3) := by decide +kernel
theorem dL_law_760 : decode cL_law 760 = .ok (.aload_n 3, 1) := by decide +kernel
theorem dL_law_761 : decode cL_law 761 = .ok (.iconst 0, 1) := by decide +kernel
theorem dL_law_762 : decode cL_law 762 = .ok (.laload, 1) := by decide +kernel
theorem dL_law_763 : decode cL_law 763 = .ok (.iload 6, 2) := by decide +kernel
theorem dL_law_765 : decode cL_law 765 = .ok (.i2l, 1) := by decide +kernel
theorem dL_law_766 : decode cL_law 766 = .ok (.lcmp, 1) := by decide +kernel
theorem dL_law_767 : decode cL_law 767 = .ok (.ifCond .eq 5, 3) := by decide +kernel
theorem dL_law_770 : decode cL_law 770 = .ok (.iconst 0, 1) := by decide +kernel
theorem dL_law_771 : decode cL_law 771 = .ok (.ireturn, 1) := by decide +kernel
theorem dL_law_772 : decode cL_law 772 = .ok (.goto 757, 3) := by decide +kernel
theorem dL_law_775 : decode cL_law 775 = .ok (.aload_n 1, 1) := by decide +kernel
theorem dL_law_776 : decode cL_law 776 = .ok (.aload_n 0, 1) := by decide +kernel
theorem dL_law_777 : decode cL_law 777 = .ok (.iload 4, 2) := by decide +kernel
theorem dL_law_779 : decode cL_law 779 = .ok (.iconst 1, 1) := by decide +kernel
theorem dL_law_780 : decode cL_law 780 = .ok (.iadd, 1) := by decide +kernel
theorem dL_law_781 : decode cL_law 781 = .ok (.iaload, 1) := by decide +kernel
theorem dL_law_782 : decode cL_law 782 = .ok (.aload_n 3, 1) := by decide +kernel
theorem dL_law_783 : decode cL_law 783 = .ok (.invokestatic 131, 3) := by decide +kernel
theorem dL_law_786 : decode cL_law 786 = .ok (.istore 5, 2) := by decide +kernel
theorem dL_law_788 : decode cL_law 788 = .ok (.aload_n 2, 1) := by decide +kernel
theorem dL_law_789 : decode cL_law 789 = .ok (.aload_n 0, 1) := by decide +kernel
theorem dL_law_790 : decode cL_law 790 = .ok (.iload 4, 2) := by decide +kernel
theorem dL_law_792 : decode cL_law 792 = .ok (.iconst 1, 1) := by decide +kernel
theorem dL_law_793 : decode cL_law 793 = .ok (.iadd, 1) := by decide +kernel
theorem dL_law_794 : decode cL_law 794 = .ok (.iaload, 1) := by decide +kernel
theorem dL_law_795 : decode cL_law 795 = .ok (.invokevirtual 133, 3) := by decide +kernel
theorem dL_law_798 : decode cL_law 798 = .ok (.istore 6, 2) := by decide +kernel
theorem dL_law_800 : decode cL_law 800 = .ok (.aload_n 2, 1) := by decide +kernel
theorem dL_law_801 : decode cL_law 801 = .ok (.invokevirtual 97, 3) := by decide +kernel
theorem dL_law_804 : decode cL_law 804 = .ok (.iload 5, 2) := by decide +kernel
theorem dL_law_806 : decode cL_law 806 = .ok (.if_icmp .eq 5, 3) := by decide +kernel
theorem dL_law_809 : decode cL_law 809 = .ok (.iconst 0, 1) := by decide +kernel
theorem dL_law_810 : decode cL_law 810 = .ok (.ireturn, 1) := by decide +kernel
theorem dL_law_811 : decode cL_law 811 = .ok (.iload 5, 2) := by decide +kernel
theorem dL_law_813 : decode cL_law 813 = .ok (.ifCond .ne 15, 3) := by decide +kernel
theorem dL_law_816 : decode cL_law 816 = .ok (.aload_n 3, 1) := by decide +kernel
theorem dL_law_817 : decode cL_law 817 = .ok (.iconst 0, 1) := by decide +kernel
theorem dL_law_818 : decode cL_law 818 = .ok (.laload, 1) := by decide +kernel
theorem dL_law_819 : decode cL_law 819 = .ok (.iload 6, 2) := by decide +kernel
theorem dL_law_821 : decode cL_law 821 = .ok (.i2l, 1) := by decide +kernel
theorem dL_law_822 : decode cL_law 822 = .ok (.lcmp, 1) := by decide +kernel
theorem dL_law_823 : decode cL_law 823 = .ok (.ifCond .eq 5, 3) := by decide +kernel
theorem dL_law_826 : decode cL_law 826 = .ok (.iconst 0, 1) := by decide +kernel
theorem dL_law_827 : decode cL_law 827 = .ok (.ireturn, 1) := by decide +kernel
theorem dL_law_828 : decode cL_law 828 = .ok (.goto 701, 3) := by decide +kernel
theorem dL_law_831 : decode cL_law 831 = .ok (.aload_n 1, 1) := by decide +kernel
theorem dL_law_832 : decode cL_law 832 = .ok (.aload_n 0, 1) := by decide +kernel
theorem dL_law_833 : decode cL_law 833 = .ok (.iload 4, 2) := by decide +kernel
theorem dL_law_835 : decode cL_law 835 = .ok (.iconst 1, 1) := by decide +kernel
theorem dL_law_836 : decode cL_law 836 = .ok (.iadd, 1) := by decide +kernel
theorem dL_law_837 : decode cL_law 837 = .ok (.iaload, 1) := by decide +kernel
theorem dL_law_838 : decode cL_law 838 = .ok (.aload_n 3, 1) := by decide +kernel
theorem dL_law_839 : decode cL_law 839 = .ok (.invokestatic 134, 3) := by decide +kernel
theorem dL_law_842 : decode cL_law 842 = .ok (.istore 5, 2) := by decide +kernel
theorem dL_law_844 : decode cL_law 844 = .ok (.aload_n 2, 1) := by decide +kernel
theorem dL_law_845 : decode cL_law 845 = .ok (.aload_n 0, 1) := by decide +kernel
theorem dL_law_846 : decode cL_law 846 = .ok (.iload 4, 2) := by decide +kernel
theorem dL_law_848 : decode cL_law 848 = .ok (.iconst 1, 1) := by decide +kernel
theorem dL_law_849 : decode cL_law 849 = .ok (.iadd, 1) := by decide +kernel
theorem dL_law_850 : decode cL_law 850 = .ok (.iaload, 1) := by decide +kernel
theorem dL_law_851 : decode cL_law 851 = .ok (.invokevirtual 136, 3) := by decide +kernel
theorem dL_law_854 : decode cL_law 854 = .ok (.istore 6, 2) := by decide +kernel
theorem dL_law_856 : decode cL_law 856 = .ok (.aload_n 2, 1) := by decide +kernel
theorem dL_law_857 : decode cL_law 857 = .ok (.invokevirtual 97, 3) := by decide +kernel
theorem dL_law_860 : decode cL_law 860 = .ok (.iload 5, 2) := by decide +kernel
theorem dL_law_862 : decode cL_law 862 = .ok (.if_icmp .eq 5, 3) := by decide +kernel
theorem dL_law_865 : decode cL_law 865 = .ok (.iconst 0, 1) := by decide +kernel
theorem dL_law_866 : decode cL_law 866 = .ok (.ireturn, 1) := by decide +kernel
theorem dL_law_867 : decode cL_law 867 = .ok (.iload 5, 2) := by decide +kernel
theorem dL_law_869 : decode cL_law 869 = .ok (.ifCond .ne 15, 3) := by decide +kernel
theorem dL_law_872 : decode cL_law 872 = .ok (.aload_n 3, 1) := by decide +kernel
theorem dL_law_873 : decode cL_law 873 = .ok (.iconst 0, 1) := by decide +kernel
theorem dL_law_874 : decode cL_law 874 = .ok (.laload, 1) := by decide +kernel
theorem dL_law_875 : decode cL_law 875 = .ok (.iload 6, 2) := by decide +kernel
theorem dL_law_877 : decode cL_law 877 = .ok (.i2l, 1) := by decide +kernel
theorem dL_law_878 : decode cL_law 878 = .ok (.lcmp, 1) := by decide +kernel
theorem dL_law_879 : decode cL_law 879 = .ok (.ifCond .eq 5, 3) := by decide +kernel
theorem dL_law_882 : decode cL_law 882 = .ok (.iconst 0, 1) := by decide +kernel
theorem dL_law_883 : decode cL_law 883 = .ok (.ireturn, 1) := by decide +kernel
theorem dL_law_884 : decode cL_law 884 = .ok (.goto 645, 3) := by decide +kernel
theorem dL_law_887 : decode cL_law 887 = .ok (.aload_n 1, 1) := by decide +kernel
theorem dL_law_888 : decode cL_law 888 = .ok (.aload_n 0, 1) := by decide +kernel
theorem dL_law_889 : decode cL_law 889 = .ok (.iload 4, 2) := by decide +kernel
theorem dL_law_891 : decode cL_law 891 = .ok (.iconst 1, 1) := by decide +kernel
theorem dL_law_892 : decode cL_law 892 = .ok (.iadd, 1) := by decide +kernel
theorem dL_law_893 : decode cL_law 893 = .ok (.iaload, 1) := by decide +kernel
theorem dL_law_894 : decode cL_law 894 = .ok (.aload_n 0, 1) := by decide +kernel
theorem dL_law_895 : decode cL_law 895 = .ok (.iload 4, 2) := by decide +kernel
theorem dL_law_897 : decode cL_law 897 = .ok (.iconst 2, 1) := by decide +kernel
theorem dL_law_898 : decode cL_law 898 = .ok (.iadd, 1) := by decide +kernel
theorem dL_law_899 : decode cL_law 899 = .ok (.iaload, 1) := by decide +kernel
theorem dL_law_900 : decode cL_law 900 = .ok (.aload_n 3, 1) := by decide +kernel
theorem dL_law_901 : decode cL_law 901 = .ok (.invokestatic 137, 3) := by decide +kernel
theorem dL_law_904 : decode cL_law 904 = .ok (.istore 5, 2) := by decide +kernel
theorem dL_law_906 : decode cL_law 906 = .ok (.aload_n 2, 1) := by decide +kernel
theorem dL_law_907 : decode cL_law 907 = .ok (.aload_n 0, 1) := by decide +kernel
theorem dL_law_908 : decode cL_law 908 = .ok (.iload 4, 2) := by decide +kernel
theorem dL_law_910 : decode cL_law 910 = .ok (.iconst 1, 1) := by decide +kernel
theorem dL_law_911 : decode cL_law 911 = .ok (.iadd, 1) := by decide +kernel
theorem dL_law_912 : decode cL_law 912 = .ok (.iaload, 1) := by decide +kernel
theorem dL_law_913 : decode cL_law 913 = .ok (.aload_n 0, 1) := by decide +kernel
theorem dL_law_914 : decode cL_law 914 = .ok (.iload 4, 2) := by decide +kernel
theorem dL_law_916 : decode cL_law 916 = .ok (.iconst 2, 1) := by decide +kernel
theorem dL_law_917 : decode cL_law 917 = .ok (.iadd, 1) := by decide +kernel
theorem dL_law_918 : decode cL_law 918 = .ok (.iaload, 1) := by decide +kernel
theorem dL_law_919 : decode cL_law 919 = .ok (.invokevirtual 139, 3) := by decide +kernel
theorem dL_law_922 : decode cL_law 922 = .ok (.istore 6, 2) := by decide +kernel
theorem dL_law_924 : decode cL_law 924 = .ok (.aload_n 2, 1) := by decide +kernel
theorem dL_law_925 : decode cL_law 925 = .ok (.invokevirtual 97, 3) := by decide +kernel
theorem dL_law_928 : decode cL_law 928 = .ok (.iload 5, 2) := by decide +kernel
theorem dL_law_930 : decode cL_law 930 = .ok (.if_icmp .eq 5, 3) := by decide +kernel
theorem dL_law_933 : decode cL_law 933 = .ok (.iconst 0, 1) := by decide +kernel
theorem dL_law_934 : decode cL_law 934 = .ok (.ireturn, 1) := by decide +kernel
theorem dL_law_935 : decode cL_law 935 = .ok (.iload 5, 2) := by decide +kernel
theorem dL_law_937 : decode cL_law 937 = .ok (.ifCond .ne 22, 3) := by decide +kernel
theorem dL_law_940 : decode cL_law 940 = .ok (.aload_n 3, 1) := by decide +kernel
theorem dL_law_941 : decode cL_law 941 = .ok (.iconst 0, 1) := by decide +kernel
theorem dL_law_942 : decode cL_law 942 = .ok (.laload, 1) := by decide +kernel
theorem dL_law_943 : decode cL_law 943 = .ok (.iload 6, 2) := by decide +kernel
theorem dL_law_945 : decode cL_law 945 = .ok (.ifCond .eq 7, 3) := by decide +kernel
theorem dL_law_948 : decode cL_law 948 = .ok (.lconst 1, 1) := by decide +kernel
theorem dL_law_949 : decode cL_law 949 = .ok (.goto 4, 3) := by decide +kernel
theorem dL_law_952 : decode cL_law 952 = .ok (.lconst 0, 1) := by decide +kernel
theorem dL_law_953 : decode cL_law 953 = .ok (.lcmp, 1) := by decide +kernel
theorem dL_law_954 : decode cL_law 954 = .ok (.ifCond .eq 5, 3) := by decide +kernel
theorem dL_law_957 : decode cL_law 957 = .ok (.iconst 0, 1) := by decide +kernel
theorem dL_law_958 : decode cL_law 958 = .ok (.ireturn, 1) := by decide +kernel
theorem dL_law_959 : decode cL_law 959 = .ok (.goto 570, 3) := by decide +kernel
theorem dL_law_962 : decode cL_law 962 = .ok (.aload_n 1, 1) := by decide +kernel
theorem dL_law_963 : decode cL_law 963 = .ok (.aload_n 0, 1) := by decide +kernel
theorem dL_law_964 : decode cL_law 964 = .ok (.iload 4, 2) := by decide +kernel
theorem dL_law_966 : decode cL_law 966 = .ok (.iconst 1, 1) := by decide +kernel
theorem dL_law_967 : decode cL_law 967 = .ok (.iadd, 1) := by decide +kernel
theorem dL_law_968 : decode cL_law 968 = .ok (.iaload, 1) := by decide +kernel
theorem dL_law_969 : decode cL_law 969 = .ok (.aload_n 3, 1) := by decide +kernel
theorem dL_law_970 : decode cL_law 970 = .ok (.invokestatic 140, 3) := by decide +kernel
theorem dL_law_973 : decode cL_law 973 = .ok (.istore 5, 2) := by decide +kernel
theorem dL_law_975 : decode cL_law 975 = .ok (.aload_n 2, 1) := by decide +kernel
theorem dL_law_976 : decode cL_law 976 = .ok (.aload_n 0, 1) := by decide +kernel
theorem dL_law_977 : decode cL_law 977 = .ok (.iload 4, 2) := by decide +kernel
theorem dL_law_979 : decode cL_law 979 = .ok (.iconst 1, 1) := by decide +kernel
theorem dL_law_980 : decode cL_law 980 = .ok (.iadd, 1) := by decide +kernel
theorem dL_law_981 : decode cL_law 981 = .ok (.iaload, 1) := by decide +kernel
theorem dL_law_982 : decode cL_law 982 = .ok (.invokevirtual 142, 3) := by decide +kernel
theorem dL_law_985 : decode cL_law 985 = .ok (.istore 6, 2) := by decide +kernel
theorem dL_law_987 : decode cL_law 987 = .ok (.aload_n 2, 1) := by decide +kernel
theorem dL_law_988 : decode cL_law 988 = .ok (.invokevirtual 97, 3) := by decide +kernel
theorem dL_law_991 : decode cL_law 991 = .ok (.iload 5, 2) := by decide +kernel
theorem dL_law_993 : decode cL_law 993 = .ok (.if_icmp .eq 5, 3) := by decide +kernel
theorem dL_law_996 : decode cL_law 996 = .ok (.iconst 0, 1) := by decide +kernel
theorem dL_law_997 : decode cL_law 997 = .ok (.ireturn, 1) := by decide +kernel
theorem dL_law_998 : decode cL_law 998 = .ok (.iload 5, 2) := by decide +kernel
theorem dL_law_1000 : decode cL_law 1000 = .ok (.ifCond .ne 15, 3) := by decide +kernel
theorem dL_law_1003 : decode cL_law 1003 = .ok (.aload_n 3, 1) := by decide +kernel
theorem dL_law_1004 : decode cL_law 1004 = .ok (.iconst 0, 1) := by decide +kernel
theorem dL_law_1005 : decode cL_law 1005 = .ok (.laload, 1) := by decide +kernel
theorem dL_law_1006 : decode cL_law 1006 = .ok (.iload 6, 2) := by decide +kernel
theorem dL_law_1008 : decode cL_law 1008 = .ok (.i2l, 1) := by decide +kernel
theorem dL_law_1009 : decode cL_law 1009 = .ok (.lcmp, 1) := by decide +kernel
theorem dL_law_1010 : decode cL_law 1010 = .ok (.ifCond .eq 5, 3) := by decide +kernel
theorem dL_law_1013 : decode cL_law 1013 = .ok (.iconst 0, 1) := by decide +kernel
theorem dL_law_1014 : decode cL_law 1014 = .ok (.ireturn, 1) := by decide +kernel
theorem dL_law_1015 : decode cL_law 1015 = .ok (.goto 514, 3) := by decide +kernel
theorem dL_law_1018 : decode cL_law 1018 = .ok (.aload_n 1, 1) := by decide +kernel
theorem dL_law_1019 : decode cL_law 1019 = .ok (.aload_n 0, 1) := by decide +kernel
theorem dL_law_1020 : decode cL_law 1020 = .ok (.iload 4, 2) := by decide +kernel
theorem dL_law_1022 : decode cL_law 1022 = .ok (.iconst 1, 1) := by decide +kernel
theorem dL_law_1023 : decode cL_law 1023 = .ok (.iadd, 1) := by decide +kernel
theorem dL_law_1024 : decode cL_law 1024 = .ok (.iaload, 1) := by decide +kernel
theorem dL_law_1025 : decode cL_law 1025 = .ok (.aload_n 3, 1) := by decide +kernel
theorem dL_law_1026 : decode cL_law 1026 = .ok (.invokestatic 143, 3) := by decide +kernel
theorem dL_law_1029 : decode cL_law 1029 = .ok (.istore 5, 2) := by decide +kernel
theorem dL_law_1031 : decode cL_law 1031 = .ok (.aload_n 2, 1) := by decide +kernel
theorem dL_law_1032 : decode cL_law 1032 = .ok (.aload_n 0, 1) := by decide +kernel
theorem dL_law_1033 : decode cL_law 1033 = .ok (.iload 4, 2) := by decide +kernel
theorem dL_law_1035 : decode cL_law 1035 = .ok (.iconst 1, 1) := by decide +kernel
theorem dL_law_1036 : decode cL_law 1036 = .ok (.iadd, 1) := by decide +kernel
theorem dL_law_1037 : decode cL_law 1037 = .ok (.iaload, 1) := by decide +kernel
theorem dL_law_1038 : decode cL_law 1038 = .ok (.invokevirtual 145, 3) := by decide +kernel
theorem dL_law_1041 : decode cL_law 1041 = .ok (.istore 6, 2) := by decide +kernel
theorem dL_law_1043 : decode cL_law 1043 = .ok (.aload_n 2, 1) := by decide +kernel
theorem dL_law_1044 : decode cL_law 1044 = .ok (.invokevirtual 97, 3) := by decide +kernel
theorem dL_law_1047 : decode cL_law 1047 = .ok (.iload 5, 2) := by decide +kernel
theorem dL_law_1049 : decode cL_law 1049 = .ok (.if_icmp .eq 5, 3) := by decide +kernel
theorem dL_law_1052 : decode cL_law 1052 = .ok (.iconst 0, 1) := by decide +kernel
theorem dL_law_1053 : decode cL_law 1053 = .ok (.ireturn, 1) := by decide +kernel
theorem dL_law_1054 : decode cL_law 1054 = .ok (.iload 5, 2) := by decide +kernel
theorem dL_law_1056 : decode cL_law 1056 = .ok (.ifCond .ne 15, 3) := by decide +kernel
theorem dL_law_1059 : decode cL_law 1059 = .ok (.aload_n 3, 1) := by decide +kernel
theorem dL_law_1060 : decode cL_law 1060 = .ok (.iconst 0, 1) := by decide +kernel
theorem dL_law_1061 : decode cL_law 1061 = .ok (.laload, 1) := by decide +kernel
theorem dL_law_1062 : decode cL_law 1062 = .ok (.iload 6, 2) := by decide +kernel
theorem dL_law_1064 : decode cL_law 1064 = .ok (.i2l, 1) := by decide +kernel
theorem dL_law_1065 : decode cL_law 1065 = .ok (.lcmp, 1) := by decide +kernel
theorem dL_law_1066 : decode cL_law 1066 = .ok (.ifCond .eq 5, 3) := by decide +kernel
theorem dL_law_1069 : decode cL_law 1069 = .ok (.iconst 0, 1) := by decide +kernel
theorem dL_law_1070 : decode cL_law 1070 = .ok (.ireturn, 1) := by decide +kernel
theorem dL_law_1071 : decode cL_law 1071 = .ok (.goto 458, 3) := by decide +kernel
theorem dL_law_1074 : decode cL_law 1074 = .ok (.aload_n 1, 1) := by decide +kernel
theorem dL_law_1075 : decode cL_law 1075 = .ok (.aload_n 0, 1) := by decide +kernel
theorem dL_law_1076 : decode cL_law 1076 = .ok (.iload 4, 2) := by decide +kernel
theorem dL_law_1078 : decode cL_law 1078 = .ok (.iconst 1, 1) := by decide +kernel
theorem dL_law_1079 : decode cL_law 1079 = .ok (.iadd, 1) := by decide +kernel
theorem dL_law_1080 : decode cL_law 1080 = .ok (.iaload, 1) := by decide +kernel
theorem dL_law_1081 : decode cL_law 1081 = .ok (.aload_n 3, 1) := by decide +kernel
theorem dL_law_1082 : decode cL_law 1082 = .ok (.invokestatic 146, 3) := by decide +kernel
theorem dL_law_1085 : decode cL_law 1085 = .ok (.istore 5, 2) := by decide +kernel
theorem dL_law_1087 : decode cL_law 1087 = .ok (.aload_n 2, 1) := by decide +kernel
theorem dL_law_1088 : decode cL_law 1088 = .ok (.aload_n 0, 1) := by decide +kernel
theorem dL_law_1089 : decode cL_law 1089 = .ok (.iload 4, 2) := by decide +kernel
theorem dL_law_1091 : decode cL_law 1091 = .ok (.iconst 1, 1) := by decide +kernel
theorem dL_law_1092 : decode cL_law 1092 = .ok (.iadd, 1) := by decide +kernel
theorem dL_law_1093 : decode cL_law 1093 = .ok (.iaload, 1) := by decide +kernel
theorem dL_law_1094 : decode cL_law 1094 = .ok (.invokevirtual 148, 3) := by decide +kernel
theorem dL_law_1097 : decode cL_law 1097 = .ok (.istore 6, 2) := by decide +kernel
theorem dL_law_1099 : decode cL_law 1099 = .ok (.aload_n 2, 1) := by decide +kernel
theorem dL_law_1100 : decode cL_law 1100 = .ok (.invokevirtual 97, 3) := by decide +kernel
theorem dL_law_1103 : decode cL_law 1103 = .ok (.iload 5, 2) := by decide +kernel
theorem dL_law_1105 : decode cL_law 1105 = .ok (.if_icmp .eq 5, 3) := by decide +kernel
theorem dL_law_1108 : decode cL_law 1108 = .ok (.iconst 0, 1) := by decide +kernel
theorem dL_law_1109 : decode cL_law 1109 = .ok (.ireturn, 1) := by decide +kernel
theorem dL_law_1110 : decode cL_law 1110 = .ok (.iload 5, 2) := by decide +kernel
theorem dL_law_1112 : decode cL_law 1112 = .ok (.ifCond .ne 15, 3) := by decide +kernel
theorem dL_law_1115 : decode cL_law 1115 = .ok (.aload_n 3, 1) := by decide +kernel
theorem dL_law_1116 : decode cL_law 1116 = .ok (.iconst 0, 1) := by decide +kernel
theorem dL_law_1117 : decode cL_law 1117 = .ok (.laload, 1) := by decide +kernel
theorem dL_law_1118 : decode cL_law 1118 = .ok (.iload 6, 2) := by decide +kernel
theorem dL_law_1120 : decode cL_law 1120 = .ok (.i2l, 1) := by decide +kernel
theorem dL_law_1121 : decode cL_law 1121 = .ok (.lcmp, 1) := by decide +kernel
theorem dL_law_1122 : decode cL_law 1122 = .ok (.ifCond .eq 5, 3) := by decide +kernel
theorem dL_law_1125 : decode cL_law 1125 = .ok (.iconst 0, 1) := by decide +kernel
theorem dL_law_1126 : decode cL_law 1126 = .ok (.ireturn, 1) := by decide +kernel
theorem dL_law_1127 : decode cL_law 1127 = .ok (.goto 402, 3) := by decide +kernel
theorem dL_law_1130 : decode cL_law 1130 = .ok (.aload_n 1, 1) := by decide +kernel
theorem dL_law_1131 : decode cL_law 1131 = .ok (.aload_n 0, 1) := by decide +kernel
theorem dL_law_1132 : decode cL_law 1132 = .ok (.iload 4, 2) := by decide +kernel
theorem dL_law_1134 : decode cL_law 1134 = .ok (.iconst 1, 1) := by decide +kernel
theorem dL_law_1135 : decode cL_law 1135 = .ok (.iadd, 1) := by decide +kernel
theorem dL_law_1136 : decode cL_law 1136 = .ok (.iaload, 1) := by decide +kernel
theorem dL_law_1137 : decode cL_law 1137 = .ok (.aload_n 3, 1) := by decide +kernel
theorem dL_law_1138 : decode cL_law 1138 = .ok (.invokestatic 149, 3) := by decide +kernel
theorem dL_law_1141 : decode cL_law 1141 = .ok (.istore 5, 2) := by decide +kernel
theorem dL_law_1143 : decode cL_law 1143 = .ok (.aload_n 2, 1) := by decide +kernel
theorem dL_law_1144 : decode cL_law 1144 = .ok (.aload_n 0, 1) := by decide +kernel
theorem dL_law_1145 : decode cL_law 1145 = .ok (.iload 4, 2) := by decide +kernel
theorem dL_law_1147 : decode cL_law 1147 = .ok (.iconst 1, 1) := by decide +kernel
theorem dL_law_1148 : decode cL_law 1148 = .ok (.iadd, 1) := by decide +kernel
theorem dL_law_1149 : decode cL_law 1149 = .ok (.iaload, 1) := by decide +kernel
theorem dL_law_1150 : decode cL_law 1150 = .ok (.invokevirtual 151, 3) := by decide +kernel
theorem dL_law_1153 : decode cL_law 1153 = .ok (.istore 6, 2) := by decide +kernel
theorem dL_law_1155 : decode cL_law 1155 = .ok (.aload_n 2, 1) := by decide +kernel
theorem dL_law_1156 : decode cL_law 1156 = .ok (.invokevirtual 97, 3) := by decide +kernel
theorem dL_law_1159 : decode cL_law 1159 = .ok (.iload 5, 2) := by decide +kernel
theorem dL_law_1161 : decode cL_law 1161 = .ok (.if_icmp .eq 5, 3) := by decide +kernel
theorem dL_law_1164 : decode cL_law 1164 = .ok (.iconst 0, 1) := by decide +kernel
theorem dL_law_1165 : decode cL_law 1165 = .ok (.ireturn, 1) := by decide +kernel
theorem dL_law_1166 : decode cL_law 1166 = .ok (.iload 5, 2) := by decide +kernel
theorem dL_law_1168 : decode cL_law 1168 = .ok (.ifCond .ne 15, 3) := by decide +kernel
theorem dL_law_1171 : decode cL_law 1171 = .ok (.aload_n 3, 1) := by decide +kernel
theorem dL_law_1172 : decode cL_law 1172 = .ok (.iconst 0, 1) := by decide +kernel
theorem dL_law_1173 : decode cL_law 1173 = .ok (.laload, 1) := by decide +kernel
theorem dL_law_1174 : decode cL_law 1174 = .ok (.iload 6, 2) := by decide +kernel
theorem dL_law_1176 : decode cL_law 1176 = .ok (.i2l, 1) := by decide +kernel
theorem dL_law_1177 : decode cL_law 1177 = .ok (.lcmp, 1) := by decide +kernel
theorem dL_law_1178 : decode cL_law 1178 = .ok (.ifCond .eq 5, 3) := by decide +kernel
theorem dL_law_1181 : decode cL_law 1181 = .ok (.iconst 0, 1) := by decide +kernel
theorem dL_law_1182 : decode cL_law 1182 = .ok (.ireturn, 1) := by decide +kernel
theorem dL_law_1183 : decode cL_law 1183 = .ok (.goto 346, 3) := by decide +kernel
theorem dL_law_1186 : decode cL_law 1186 = .ok (.aload_n 1, 1) := by decide +kernel
theorem dL_law_1187 : decode cL_law 1187 = .ok (.aload_n 0, 1) := by decide +kernel
theorem dL_law_1188 : decode cL_law 1188 = .ok (.iload 4, 2) := by decide +kernel
theorem dL_law_1190 : decode cL_law 1190 = .ok (.iconst 1, 1) := by decide +kernel
theorem dL_law_1191 : decode cL_law 1191 = .ok (.iadd, 1) := by decide +kernel
theorem dL_law_1192 : decode cL_law 1192 = .ok (.iaload, 1) := by decide +kernel
theorem dL_law_1193 : decode cL_law 1193 = .ok (.aload_n 3, 1) := by decide +kernel
theorem dL_law_1194 : decode cL_law 1194 = .ok (.invokestatic 152, 3) := by decide +kernel
theorem dL_law_1197 : decode cL_law 1197 = .ok (.istore 5, 2) := by decide +kernel
theorem dL_law_1199 : decode cL_law 1199 = .ok (.aload_n 2, 1) := by decide +kernel
theorem dL_law_1200 : decode cL_law 1200 = .ok (.aload_n 0, 1) := by decide +kernel
theorem dL_law_1201 : decode cL_law 1201 = .ok (.iload 4, 2) := by decide +kernel
theorem dL_law_1203 : decode cL_law 1203 = .ok (.iconst 1, 1) := by decide +kernel
theorem dL_law_1204 : decode cL_law 1204 = .ok (.iadd, 1) := by decide +kernel
theorem dL_law_1205 : decode cL_law 1205 = .ok (.iaload, 1) := by decide +kernel
theorem dL_law_1206 : decode cL_law 1206 = .ok (.invokevirtual 154, 3) := by decide +kernel
theorem dL_law_1209 : decode cL_law 1209 = .ok (.istore 6, 2) := by decide +kernel
theorem dL_law_1211 : decode cL_law 1211 = .ok (.aload_n 2, 1) := by decide +kernel
theorem dL_law_1212 : decode cL_law 1212 = .ok (.invokevirtual 97, 3) := by decide +kernel
theorem dL_law_1215 : decode cL_law 1215 = .ok (.iload 5, 2) := by decide +kernel
theorem dL_law_1217 : decode cL_law 1217 = .ok (.if_icmp .eq 5, 3) := by decide +kernel
theorem dL_law_1220 : decode cL_law 1220 = .ok (.iconst 0, 1) := by decide +kernel
theorem dL_law_1221 : decode cL_law 1221 = .ok (.ireturn, 1) := by decide +kernel
theorem dL_law_1222 : decode cL_law 1222 = .ok (.iload 5, 2) := by decide +kernel
theorem dL_law_1224 : decode cL_law 1224 = .ok (.ifCond .ne 15, 3) := by decide +kernel
theorem dL_law_1227 : decode cL_law 1227 = .ok (.aload_n 3, 1) := by decide +kernel
theorem dL_law_1228 : decode cL_law 1228 = .ok (.iconst 0, 1) := by decide +kernel
theorem dL_law_1229 : decode cL_law 1229 = .ok (.laload, 1) := by decide +kernel
theorem dL_law_1230 : decode cL_law 1230 = .ok (.iload 6, 2) := by decide +kernel
theorem dL_law_1232 : decode cL_law 1232 = .ok (.i2l, 1) := by decide +kernel
theorem dL_law_1233 : decode cL_law 1233 = .ok (.lcmp, 1) := by decide +kernel
theorem dL_law_1234 : decode cL_law 1234 = .ok (.ifCond .eq 5, 3) := by decide +kernel
theorem dL_law_1237 : decode cL_law 1237 = .ok (.iconst 0, 1) := by decide +kernel
theorem dL_law_1238 : decode cL_law 1238 = .ok (.ireturn, 1) := by decide +kernel
theorem dL_law_1239 : decode cL_law 1239 = .ok (.goto 290, 3) := by decide +kernel
theorem dL_law_1242 : decode cL_law 1242 = .ok (.aload_n 1, 1) := by decide +kernel
theorem dL_law_1243 : decode cL_law 1243 = .ok (.aload_n 0, 1) := by decide +kernel
theorem dL_law_1244 : decode cL_law 1244 = .ok (.iload 4, 2) := by decide +kernel
theorem dL_law_1246 : decode cL_law 1246 = .ok (.iconst 1, 1) := by decide +kernel
theorem dL_law_1247 : decode cL_law 1247 = .ok (.iadd, 1) := by decide +kernel
theorem dL_law_1248 : decode cL_law 1248 = .ok (.iaload, 1) := by decide +kernel
theorem dL_law_1249 : decode cL_law 1249 = .ok (.aload_n 0, 1) := by decide +kernel
theorem dL_law_1250 : decode cL_law 1250 = .ok (.iload 4, 2) := by decide +kernel
theorem dL_law_1252 : decode cL_law 1252 = .ok (.iconst 2, 1) := by decide +kernel
theorem dL_law_1253 : decode cL_law 1253 = .ok (.iadd, 1) := by decide +kernel
theorem dL_law_1254 : decode cL_law 1254 = .ok (.iaload, 1) := by decide +kernel
theorem dL_law_1255 : decode cL_law 1255 = .ok (.aload_n 3, 1) := by decide +kernel
theorem dL_law_1256 : decode cL_law 1256 = .ok (.invokestatic 155, 3) := by decide +kernel
theorem dL_law_1259 : decode cL_law 1259 = .ok (.istore 5, 2) := by decide +kernel
theorem dL_law_1261 : decode cL_law 1261 = .ok (.aload_n 2, 1) := by decide +kernel
theorem dL_law_1262 : decode cL_law 1262 = .ok (.aload_n 0, 1) := by decide +kernel
theorem dL_law_1263 : decode cL_law 1263 = .ok (.iload 4, 2) := by decide +kernel
theorem dL_law_1265 : decode cL_law 1265 = .ok (.iconst 1, 1) := by decide +kernel
theorem dL_law_1266 : decode cL_law 1266 = .ok (.iadd, 1) := by decide +kernel
theorem dL_law_1267 : decode cL_law 1267 = .ok (.iaload, 1) := by decide +kernel
theorem dL_law_1268 : decode cL_law 1268 = .ok (.aload_n 0, 1) := by decide +kernel
theorem dL_law_1269 : decode cL_law 1269 = .ok (.iload 4, 2) := by decide +kernel
theorem dL_law_1271 : decode cL_law 1271 = .ok (.iconst 2, 1) := by decide +kernel
theorem dL_law_1272 : decode cL_law 1272 = .ok (.iadd, 1) := by decide +kernel
theorem dL_law_1273 : decode cL_law 1273 = .ok (.iaload, 1) := by decide +kernel
theorem dL_law_1274 : decode cL_law 1274 = .ok (.invokevirtual 157, 3) := by decide +kernel
theorem dL_law_1277 : decode cL_law 1277 = .ok (.istore 6, 2) := by decide +kernel
theorem dL_law_1279 : decode cL_law 1279 = .ok (.aload_n 2, 1) := by decide +kernel
theorem dL_law_1280 : decode cL_law 1280 = .ok (.invokevirtual 97, 3) := by decide +kernel
theorem dL_law_1283 : decode cL_law 1283 = .ok (.iload 5, 2) := by decide +kernel
theorem dL_law_1285 : decode cL_law 1285 = .ok (.if_icmp .eq 5, 3) := by decide +kernel
theorem dL_law_1288 : decode cL_law 1288 = .ok (.iconst 0, 1) := by decide +kernel
theorem dL_law_1289 : decode cL_law 1289 = .ok (.ireturn, 1) := by decide +kernel
theorem dL_law_1290 : decode cL_law 1290 = .ok (.iload 5, 2) := by decide +kernel
theorem dL_law_1292 : decode cL_law 1292 = .ok (.ifCond .ne 15, 3) := by decide +kernel
theorem dL_law_1295 : decode cL_law 1295 = .ok (.aload_n 3, 1) := by decide +kernel
theorem dL_law_1296 : decode cL_law 1296 = .ok (.iconst 0, 1) := by decide +kernel
theorem dL_law_1297 : decode cL_law 1297 = .ok (.laload, 1) := by decide +kernel
theorem dL_law_1298 : decode cL_law 1298 = .ok (.iload 6, 2) := by decide +kernel
theorem dL_law_1300 : decode cL_law 1300 = .ok (.i2l, 1) := by decide +kernel
theorem dL_law_1301 : decode cL_law 1301 = .ok (.lcmp, 1) := by decide +kernel
theorem dL_law_1302 : decode cL_law 1302 = .ok (.ifCond .eq 5, 3) := by decide +kernel
theorem dL_law_1305 : decode cL_law 1305 = .ok (.iconst 0, 1) := by decide +kernel
theorem dL_law_1306 : decode cL_law 1306 = .ok (.ireturn, 1) := by decide +kernel
theorem dL_law_1307 : decode cL_law 1307 = .ok (.goto 222, 3) := by decide +kernel
theorem dL_law_1310 : decode cL_law 1310 = .ok (.aload_n 1, 1) := by decide +kernel
theorem dL_law_1311 : decode cL_law 1311 = .ok (.aload_n 3, 1) := by decide +kernel
theorem dL_law_1312 : decode cL_law 1312 = .ok (.invokestatic 158, 3) := by decide +kernel
theorem dL_law_1315 : decode cL_law 1315 = .ok (.istore 5, 2) := by decide +kernel
theorem dL_law_1317 : decode cL_law 1317 = .ok (.aload_n 2, 1) := by decide +kernel
theorem dL_law_1318 : decode cL_law 1318 = .ok (.invokevirtual 161, 3) := by decide +kernel
theorem dL_law_1321 : decode cL_law 1321 = .ok (.istore 6, 2) := by decide +kernel
theorem dL_law_1323 : decode cL_law 1323 = .ok (.aload_n 2, 1) := by decide +kernel
theorem dL_law_1324 : decode cL_law 1324 = .ok (.invokevirtual 97, 3) := by decide +kernel
theorem dL_law_1327 : decode cL_law 1327 = .ok (.iload 5, 2) := by decide +kernel
theorem dL_law_1329 : decode cL_law 1329 = .ok (.if_icmp .eq 5, 3) := by decide +kernel
theorem dL_law_1332 : decode cL_law 1332 = .ok (.iconst 0, 1) := by decide +kernel
theorem dL_law_1333 : decode cL_law 1333 = .ok (.ireturn, 1) := by decide +kernel
theorem dL_law_1334 : decode cL_law 1334 = .ok (.iload 5, 2) := by decide +kernel
theorem dL_law_1336 : decode cL_law 1336 = .ok (.ifCond .ne 15, 3) := by decide +kernel
theorem dL_law_1339 : decode cL_law 1339 = .ok (.aload_n 3, 1) := by decide +kernel
theorem dL_law_1340 : decode cL_law 1340 = .ok (.iconst 0, 1) := by decide +kernel
theorem dL_law_1341 : decode cL_law 1341 = .ok (.laload, 1) := by decide +kernel
theorem dL_law_1342 : decode cL_law 1342 = .ok (.iload 6, 2) := by decide +kernel
theorem dL_law_1344 : decode cL_law 1344 = .ok (.i2l, 1) := by decide +kernel
theorem dL_law_1345 : decode cL_law 1345 = .ok (.lcmp, 1) := by decide +kernel
theorem dL_law_1346 : decode cL_law 1346 = .ok (.ifCond .eq 5, 3) := by decide +kernel
theorem dL_law_1349 : decode cL_law 1349 = .ok (.iconst 0, 1) := by decide +kernel
theorem dL_law_1350 : decode cL_law 1350 = .ok (.ireturn, 1) := by decide +kernel
theorem dL_law_1351 : decode cL_law 1351 = .ok (.goto 178, 3) := by decide +kernel
theorem dL_law_1354 : decode cL_law 1354 = .ok (.aload_n 1, 1) := by decide +kernel
theorem dL_law_1355 : decode cL_law 1355 = .ok (.aload_n 0, 1) := by decide +kernel
theorem dL_law_1356 : decode cL_law 1356 = .ok (.iload 4, 2) := by decide +kernel
theorem dL_law_1358 : decode cL_law 1358 = .ok (.iconst 1, 1) := by decide +kernel
theorem dL_law_1359 : decode cL_law 1359 = .ok (.iadd, 1) := by decide +kernel
theorem dL_law_1360 : decode cL_law 1360 = .ok (.iaload, 1) := by decide +kernel
theorem dL_law_1361 : decode cL_law 1361 = .ok (.aload_n 0, 1) := by decide +kernel
theorem dL_law_1362 : decode cL_law 1362 = .ok (.iload 4, 2) := by decide +kernel
theorem dL_law_1364 : decode cL_law 1364 = .ok (.iconst 2, 1) := by decide +kernel
theorem dL_law_1365 : decode cL_law 1365 = .ok (.iadd, 1) := by decide +kernel
theorem dL_law_1366 : decode cL_law 1366 = .ok (.iaload, 1) := by decide +kernel
theorem dL_law_1367 : decode cL_law 1367 = .ok (.aload_n 0, 1) := by decide +kernel
theorem dL_law_1368 : decode cL_law 1368 = .ok (.iload 4, 2) := by decide +kernel
theorem dL_law_1370 : decode cL_law 1370 = .ok (.iconst 3, 1) := by decide +kernel
theorem dL_law_1371 : decode cL_law 1371 = .ok (.iadd, 1) := by decide +kernel
theorem dL_law_1372 : decode cL_law 1372 = .ok (.iaload, 1) := by decide +kernel
theorem dL_law_1373 : decode cL_law 1373 = .ok (.aload_n 3, 1) := by decide +kernel
theorem dL_law_1374 : decode cL_law 1374 = .ok (.invokestatic 162, 3) := by decide +kernel
theorem dL_law_1377 : decode cL_law 1377 = .ok (.istore 5, 2) := by decide +kernel
theorem dL_law_1379 : decode cL_law 1379 = .ok (.aload_n 2, 1) := by decide +kernel
theorem dL_law_1380 : decode cL_law 1380 = .ok (.aload_n 0, 1) := by decide +kernel
theorem dL_law_1381 : decode cL_law 1381 = .ok (.iload 4, 2) := by decide +kernel
theorem dL_law_1383 : decode cL_law 1383 = .ok (.iconst 1, 1) := by decide +kernel
theorem dL_law_1384 : decode cL_law 1384 = .ok (.iadd, 1) := by decide +kernel
theorem dL_law_1385 : decode cL_law 1385 = .ok (.iaload, 1) := by decide +kernel
theorem dL_law_1386 : decode cL_law 1386 = .ok (.aload_n 0, 1) := by decide +kernel
theorem dL_law_1387 : decode cL_law 1387 = .ok (.iload 4, 2) := by decide +kernel
theorem dL_law_1389 : decode cL_law 1389 = .ok (.iconst 2, 1) := by decide +kernel
theorem dL_law_1390 : decode cL_law 1390 = .ok (.iadd, 1) := by decide +kernel
theorem dL_law_1391 : decode cL_law 1391 = .ok (.iaload, 1) := by decide +kernel
theorem dL_law_1392 : decode cL_law 1392 = .ok (.aload_n 0, 1) := by decide +kernel
theorem dL_law_1393 : decode cL_law 1393 = .ok (.iload 4, 2) := by decide +kernel
theorem dL_law_1395 : decode cL_law 1395 = .ok (.iconst 3, 1) := by decide +kernel
theorem dL_law_1396 : decode cL_law 1396 = .ok (.iadd, 1) := by decide +kernel
theorem dL_law_1397 : decode cL_law 1397 = .ok (.iaload, 1) := by decide +kernel
theorem dL_law_1398 : decode cL_law 1398 = .ok (.invokevirtual 164, 3) := by decide +kernel
theorem dL_law_1401 : decode cL_law 1401 = .ok (.istore 6, 2) := by decide +kernel
theorem dL_law_1403 : decode cL_law 1403 = .ok (.aload_n 2, 1) := by decide +kernel
theorem dL_law_1404 : decode cL_law 1404 = .ok (.invokevirtual 97, 3) := by decide +kernel
theorem dL_law_1407 : decode cL_law 1407 = .ok (.iload 5, 2) := by decide +kernel
theorem dL_law_1409 : decode cL_law 1409 = .ok (.if_icmp .eq 5, 3) := by decide +kernel
theorem dL_law_1412 : decode cL_law 1412 = .ok (.iconst 0, 1) := by decide +kernel
theorem dL_law_1413 : decode cL_law 1413 = .ok (.ireturn, 1) := by decide +kernel
theorem dL_law_1414 : decode cL_law 1414 = .ok (.iload 5, 2) := by decide +kernel
theorem dL_law_1416 : decode cL_law 1416 = .ok (.ifCond .ne 15, 3) := by decide +kernel
theorem dL_law_1419 : decode cL_law 1419 = .ok (.aload_n 3, 1) := by decide +kernel
theorem dL_law_1420 : decode cL_law 1420 = .ok (.iconst 0, 1) := by decide +kernel
theorem dL_law_1421 : decode cL_law 1421 = .ok (.laload, 1) := by decide +kernel
theorem dL_law_1422 : decode cL_law 1422 = .ok (.iload 6, 2) := by decide +kernel
theorem dL_law_1424 : decode cL_law 1424 = .ok (.i2l, 1) := by decide +kernel
theorem dL_law_1425 : decode cL_law 1425 = .ok (.lcmp, 1) := by decide +kernel
theorem dL_law_1426 : decode cL_law 1426 = .ok (.ifCond .eq 5, 3) := by decide +kernel
theorem dL_law_1429 : decode cL_law 1429 = .ok (.iconst 0, 1) := by decide +kernel
theorem dL_law_1430 : decode cL_law 1430 = .ok (.ireturn, 1) := by decide +kernel
theorem dL_law_1431 : decode cL_law 1431 = .ok (.goto 98, 3) := by decide +kernel
theorem dL_law_1434 : decode cL_law 1434 = .ok (.aload_n 1, 1) := by decide +kernel
theorem dL_law_1435 : decode cL_law 1435 = .ok (.aload_n 0, 1) := by decide +kernel
theorem dL_law_1436 : decode cL_law 1436 = .ok (.iload 4, 2) := by decide +kernel
theorem dL_law_1438 : decode cL_law 1438 = .ok (.iconst 1, 1) := by decide +kernel
theorem dL_law_1439 : decode cL_law 1439 = .ok (.iadd, 1) := by decide +kernel
theorem dL_law_1440 : decode cL_law 1440 = .ok (.iaload, 1) := by decide +kernel
theorem dL_law_1441 : decode cL_law 1441 = .ok (.aload_n 0, 1) := by decide +kernel
theorem dL_law_1442 : decode cL_law 1442 = .ok (.iload 4, 2) := by decide +kernel
theorem dL_law_1444 : decode cL_law 1444 = .ok (.iconst 2, 1) := by decide +kernel
theorem dL_law_1445 : decode cL_law 1445 = .ok (.iadd, 1) := by decide +kernel
theorem dL_law_1446 : decode cL_law 1446 = .ok (.iaload, 1) := by decide +kernel
theorem dL_law_1447 : decode cL_law 1447 = .ok (.aload_n 3, 1) := by decide +kernel
theorem dL_law_1448 : decode cL_law 1448 = .ok (.invokestatic 165, 3) := by decide +kernel
theorem dL_law_1451 : decode cL_law 1451 = .ok (.istore 5, 2) := by decide +kernel
theorem dL_law_1453 : decode cL_law 1453 = .ok (.aload_n 2, 1) := by decide +kernel
theorem dL_law_1454 : decode cL_law 1454 = .ok (.aload_n 0, 1) := by decide +kernel
theorem dL_law_1455 : decode cL_law 1455 = .ok (.iload 4, 2) := by decide +kernel
theorem dL_law_1457 : decode cL_law 1457 = .ok (.iconst 1, 1) := by decide +kernel
theorem dL_law_1458 : decode cL_law 1458 = .ok (.iadd, 1) := by decide +kernel
theorem dL_law_1459 : decode cL_law 1459 = .ok (.iaload, 1) := by decide +kernel
theorem dL_law_1460 : decode cL_law 1460 = .ok (.aload_n 0, 1) := by decide +kernel
theorem dL_law_1461 : decode cL_law 1461 = .ok (.iload 4, 2) := by decide +kernel
theorem dL_law_1463 : decode cL_law 1463 = .ok (.iconst 2, 1) := by decide +kernel
theorem dL_law_1464 : decode cL_law 1464 = .ok (.iadd, 1) := by decide +kernel
theorem dL_law_1465 : decode cL_law 1465 = .ok (.iaload, 1) := by decide +kernel
theorem dL_law_1466 : decode cL_law 1466 = .ok (.invokevirtual 167, 3) := by decide +kernel
theorem dL_law_1469 : decode cL_law 1469 = .ok (.istore 6, 2) := by decide +kernel
theorem dL_law_1471 : decode cL_law 1471 = .ok (.aload_n 2, 1) := by decide +kernel
theorem dL_law_1472 : decode cL_law 1472 = .ok (.invokevirtual 97, 3) := by decide +kernel
theorem dL_law_1475 : decode cL_law 1475 = .ok (.iload 5, 2) := by decide +kernel
theorem dL_law_1477 : decode cL_law 1477 = .ok (.if_icmp .eq 5, 3) := by decide +kernel
theorem dL_law_1480 : decode cL_law 1480 = .ok (.iconst 0, 1) := by decide +kernel
theorem dL_law_1481 : decode cL_law 1481 = .ok (.ireturn, 1) := by decide +kernel
theorem dL_law_1482 : decode cL_law 1482 = .ok (.iload 5, 2) := by decide +kernel
theorem dL_law_1484 : decode cL_law 1484 = .ok (.ifCond .ne 15, 3) := by decide +kernel
theorem dL_law_1487 : decode cL_law 1487 = .ok (.aload_n 3, 1) := by decide +kernel
theorem dL_law_1488 : decode cL_law 1488 = .ok (.iconst 0, 1) := by decide +kernel
theorem dL_law_1489 : decode cL_law 1489 = .ok (.laload, 1) := by decide +kernel
theorem dL_law_1490 : decode cL_law 1490 = .ok (.iload 6, 2) := by decide +kernel
theorem dL_law_1492 : decode cL_law 1492 = .ok (.i2l, 1) := by decide +kernel
theorem dL_law_1493 : decode cL_law 1493 = .ok (.lcmp, 1) := by decide +kernel
theorem dL_law_1494 : decode cL_law 1494 = .ok (.ifCond .eq 5, 3) := by decide +kernel
theorem dL_law_1497 : decode cL_law 1497 = .ok (.iconst 0, 1) := by decide +kernel
theorem dL_law_1498 : decode cL_law 1498 = .ok (.ireturn, 1) := by decide +kernel
theorem dL_law_1499 : decode cL_law 1499 = .ok (.goto 30, 3) := by decide +kernel
theorem dL_law_1502 : decode cL_law 1502 = .ok (.aload_n 1, 1) := by decide +kernel
theorem dL_law_1503 : decode cL_law 1503 = .ok (.invokevirtual 168, 3) := by decide +kernel
theorem dL_law_1506 : decode cL_law 1506 = .ok (.aload_n 2, 1) := by decide +kernel
theorem dL_law_1507 : decode cL_law 1507 = .ok (.invokevirtual 171, 3) := by decide +kernel
theorem dL_law_1510 : decode cL_law 1510 = .ok (.if_icmp .eq 19, 3) := by decide +kernel
theorem dL_law_1513 : decode cL_law 1513 = .ok (.iconst 0, 1) := by decide +kernel
theorem dL_law_1514 : decode cL_law 1514 = .ok (.ireturn, 1) := by decide +kernel
theorem dL_law_1515 : decode cL_law 1515 = .ok (.aload_n 1, 1) := by decide +kernel
theorem dL_law_1516 : decode cL_law 1516 = .ok (.invokevirtual 172, 3) := by decide +kernel
theorem dL_law_1519 : decode cL_law 1519 = .ok (.aload_n 2, 1) := by decide +kernel
theorem dL_law_1520 : decode cL_law 1520 = .ok (.invokevirtual 176, 3) := by decide +kernel
theorem dL_law_1523 : decode cL_law 1523 = .ok (.lcmp, 1) := by decide +kernel
theorem dL_law_1524 : decode cL_law 1524 = .ok (.ifCond .eq 5, 3) := by decide +kernel
theorem dL_law_1527 : decode cL_law 1527 = .ok (.iconst 0, 1) := by decide +kernel
theorem dL_law_1528 : decode cL_law 1528 = .ok (.ireturn, 1) := by decide +kernel
theorem dL_law_1529 : decode cL_law 1529 = .ok (.iinc 4 6, 3) := by decide +kernel
theorem dL_law_1532 : decode cL_law 1532 = .ok (.goto (-1509), 3) := by decide +kernel
theorem dL_law_1535 : decode cL_law 1535 = .ok (.iconst 1, 1) := by decide +kernel
theorem dL_law_1536 : decode cL_law 1536 = .ok (.ireturn, 1) := by decide +kernel
