theorem dX0_init_0 : decode cX0_init 0 = .ok (.aload_n 0, 1) := by decide +kernel
theorem dX0_init_1 : decode cX0_init 1 = .ok (.invokespecial 3, 3) := by decide +kernel
theorem dX0_init_4 : decode cX0_init 4 = .ok (.aload_n 0, 1) := by decide +kernel
theorem dX0_init_5 : decode cX0_init 5 = .ok (.bipush 8, 2) := by decide +kernel
theorem dX0_init_7 : decode cX0_init 7 = .ok (.newarray .int, 2) := by decide +kernel
theorem dX0_init_9 : decode cX0_init 9 = .ok (.putfield 9, 3) := by decide +kernel
theorem dX0_init_12 : decode cX0_init 12 = .ok (.aload_n 0, 1) := by decide +kernel
theorem dX0_init_13 : decode cX0_init 13 = .ok (.bipush 8, 2) := by decide +kernel
theorem dX0_init_15 : decode cX0_init 15 = .ok (.newarray .int, 2) := by decide +kernel
theorem dX0_init_17 : decode cX0_init 17 = .ok (.putfield 15, 3) := by decide +kernel
theorem dX0_init_20 : decode cX0_init 20 = .ok (.aload_n 0, 1) := by decide +kernel
theorem dX0_init_21 : decode cX0_init 21 = .ok (.bipush 64, 2) := by decide +kernel
theorem dX0_init_23 : decode cX0_init 23 = .ok (.newarray .int, 2) := by decide +kernel
theorem dX0_init_25 : decode cX0_init 25 = .ok (.putfield 18, 3) := by decide +kernel
theorem dX0_init_28 : decode cX0_init 28 = .ok (.aload_n 0, 1) := by decide +kernel
theorem dX0_init_29 : decode cX0_init 29 = .ok (.bipush 8, 2) := by decide +kernel
theorem dX0_init_31 : decode cX0_init 31 = .ok (.newarray .int, 2) := by decide +kernel
theorem dX0_init_33 : decode cX0_init 33 = .ok (.putfield 21, 3) := by decide +kernel
theorem dX0_init_36 : decode cX0_init 36 = .ok (.aload_n 0, 1) := by decide +kernel
theorem dX0_init_37 : decode cX0_init 37 = .ok (.bipush 8, 2) := by decide +kernel
theorem dX0_init_39 : decode cX0_init 39 = .ok (.newarray .int, 2) := by decide +kernel
theorem dX0_init_41 : decode cX0_init 41 = .ok (.putfield 24, 3) := by decide +kernel
theorem dX0_init_44 : decode cX0_init 44 = .ok (.return_, 1) := by decide +kernel
theorem dX0_listen_0 : decode cX0_listen 0 = .ok (.iconst 0, 1) := by decide +kernel
theorem dX0_listen_1 : decode cX0_listen 1 = .ok (.istore_n 2, 1) := by decide +kernel
theorem dX0_listen_2 : decode cX0_listen 2 = .ok (.iload_n 2, 1) := by decide +kernel
theorem dX0_listen_3 : decode cX0_listen 3 = .ok (.aload_n 1, 1) := by decide +kernel
theorem dX0_listen_4 : decode cX0_listen 4 = .ok (.getfield 27, 3) := by decide +kernel
theorem dX0_listen_7 : decode cX0_listen 7 = .ok (.if_icmp .ge 98, 3) := by decide +kernel
theorem dX0_listen_10 : decode cX0_listen 10 = .ok (.aload_n 0, 1) := by decide +kernel
theorem dX0_listen_11 : decode cX0_listen 11 = .ok (.getfield 21, 3) := by decide +kernel
theorem dX0_listen_14 : decode cX0_listen 14 = .ok (.iload_n 2, 1) := by decide +kernel
theorem dX0_listen_15 : decode cX0_listen 15 = .ok (.iconst 0, 1) := by decide +kernel
theorem dX0_listen_16 : decode cX0_listen 16 = .ok (.iastore, 1) := by decide +kernel
theorem dX0_listen_17 : decode cX0_listen 17 = .ok (.aload_n 0, 1) := by decide +kernel
theorem dX0_listen_18 : decode cX0_listen 18 = .ok (.getfield 24, 3) := by decide +kernel
theorem dX0_listen_21 : decode cX0_listen 21 = .ok (.iload_n 2, 1) := by decide +kernel
theorem dX0_listen_22 : decode cX0_listen 22 = .ok (.iconst 0, 1) := by decide +kernel
theorem dX0_listen_23 : decode cX0_listen 23 = .ok (.iastore, 1) := by decide +kernel
theorem dX0_listen_24 : decode cX0_listen 24 = .ok (.iconst 0, 1) := by decide +kernel
theorem dX0_listen_25 : decode cX0_listen 25 = .ok (.istore_n 3, 1) := by decide +kernel
theorem dX0_listen_26 : decode cX0_listen 26 = .ok (.iload_n 3, 1) := by decide +kernel
theorem dX0_listen_27 : decode cX0_listen 27 = .ok (.aload_n 1, 1) := by decide +kernel
theorem dX0_listen_28 : decode cX0_listen 28 = .ok (.getfield 27, 3) := by decide +kernel
theorem dX0_listen_31 : decode cX0_listen 31 = .ok (.if_icmp .ge 68, 3) := by decide +kernel
theorem dX0_listen_34 : decode cX0_listen 34 = .ok (.aload_n 1, 1) := by decide +kernel
theorem dX0_listen_35 : decode cX0_listen 35 = .ok (.iload_n 3, 1) := by decide +kernel
theorem dX0_listen_36 : decode cX0_listen 36 = .ok (.invokevirtual 33, 3) := by decide +kernel
theorem dX0_listen_39 : decode cX0_listen 39 = .ok (.ifCond .eq 54, 3) := by decide +kernel
theorem dX0_listen_42 : decode cX0_listen 42 = .ok (.aload_n 1, 1) := by decide +kernel
theorem dX0_listen_43 : decode cX0_listen 43 = .ok (.iload_n 3, 1) := by decide +kernel
theorem dX0_listen_44 : decode cX0_listen 44 = .ok (.iload_n 2, 1) := by decide +kernel
theorem dX0_listen_45 : decode cX0_listen 45 = .ok (.invokevirtual 37, 3) := by decide +kernel
theorem dX0_listen_48 : decode cX0_listen 48 = .ok (.ifCond .le 45, 3) := by decide +kernel
theorem dX0_listen_51 : decode cX0_listen 51 = .ok (.aload_n 0, 1) := by decide +kernel
theorem dX0_listen_52 : decode cX0_listen 52 = .ok (.getfield 18, 3) := by decide +kernel
theorem dX0_listen_55 : decode cX0_listen 55 = .ok (.iload_n 2, 1) := by decide +kernel
theorem dX0_listen_56 : decode cX0_listen 56 = .ok (.bipush 8, 2) := by decide +kernel
theorem dX0_listen_58 : decode cX0_listen 58 = .ok (.imul, 1) := by decide +kernel
theorem dX0_listen_59 : decode cX0_listen 59 = .ok (.aload_n 0, 1) := by decide +kernel
theorem dX0_listen_60 : decode cX0_listen 60 = .ok (.getfield 21, 3) := by decide +kernel
theorem dX0_listen_63 : decode cX0_listen 63 = .ok (.iload_n 2, 1) := by decide +kernel
theorem dX0_listen_64 : decode cX0_listen 64 = .ok (.iaload, 1) := by decide +kernel
theorem dX0_listen_65 : decode cX0_listen 65 = .ok (.iadd, 1) := by decide +kernel
theorem dX0_listen_66 : decode cX0_listen 66 = .ok (.iload_n 3, 1) := by decide +kernel
theorem dX0_listen_67 : decode cX0_listen 67 = .ok (.iastore, 1) := by decide +kernel
theorem dX0_listen_68 : decode cX0_listen 68 = .ok (.aload_n 0, 1) := by decide +kernel
theorem dX0_listen_69 : decode cX0_listen 69 = .ok (.getfield 21, 3) := by decide +kernel
theorem dX0_listen_72 : decode cX0_listen 72 = .ok (.iload_n 2, 1) := by decide +kernel
theorem dX0_listen_73 : decode cX0_listen 73 = .ok (.dup2, 1) := by decide +kernel
theorem dX0_listen_74 : decode cX0_listen 74 = .ok (.iaload, 1) := by decide +kernel
theorem dX0_listen_75 : decode cX0_listen 75 = .ok (.iconst 1, 1) := by decide +kernel
theorem dX0_listen_76 : decode cX0_listen 76 = .ok (.iadd, 1) := by decide +kernel
theorem dX0_listen_77 : decode cX0_listen 77 = .ok (.iastore, 1) := by decide +kernel
theorem dX0_listen_78 : decode cX0_listen 78 = .ok (.aload_n 0, 1) := by decide +kernel
theorem dX0_listen_79 : decode cX0_listen 79 = .ok (.getfield 24, 3) := by decide +kernel
theorem dX0_listen_82 : decode cX0_listen 82 = .ok (.iload_n 2, 1) := by decide +kernel
theorem dX0_listen_83 : decode cX0_listen 83 = .ok (.dup2, 1) := by decide +kernel
theorem dX0_listen_84 : decode cX0_listen 84 = .ok (.iaload, 1) := by decide +kernel
theorem dX0_listen_85 : decode cX0_listen 85 = .ok (.aload_n 1, 1) := by decide +kernel
theorem dX0_listen_86 : decode cX0_listen 86 = .ok (.iload_n 3, 1) := by decide +kernel
theorem dX0_listen_87 : decode cX0_listen 87 = .ok (.iload_n 2, 1) := by decide +kernel
theorem dX0_listen_88 : decode cX0_listen 88 = .ok (.invokevirtual 37, 3) := by decide +kernel
theorem dX0_listen_91 : decode cX0_listen 91 = .ok (.iadd, 1) := by decide +kernel
theorem dX0_listen_92 : decode cX0_listen 92 = .ok (.iastore, 1) := by decide +kernel
theorem dX0_listen_93 : decode cX0_listen 93 = .ok (.iinc 3 1, 3) := by decide +kernel
theorem dX0_listen_96 : decode cX0_listen 96 = .ok (.goto (-70), 3) := by decide +kernel
theorem dX0_listen_99 : decode cX0_listen 99 = .ok (.iinc 2 1, 3) := by decide +kernel
theorem dX0_listen_102 : decode cX0_listen 102 = .ok (.goto (-100), 3) := by decide +kernel
theorem dX0_listen_105 : decode cX0_listen 105 = .ok (.return_, 1) := by decide +kernel
theorem dX0_stretchWires_0 : decode cX0_stretchWires 0 = .ok (.iconst 0, 1) := by decide +kernel
theorem dX0_stretchWires_1 : decode cX0_stretchWires 1 = .ok (.istore_n 3, 1) := by decide +kernel
theorem dX0_stretchWires_2 : decode cX0_stretchWires 2 = .ok (.iload_n 3, 1) := by decide +kernel
theorem dX0_stretchWires_3 : decode cX0_stretchWires 3 = .ok (.aload_n 1, 1) := by decide +kernel
theorem dX0_stretchWires_4 : decode cX0_stretchWires 4 = .ok (.getfield 27, 3) := by decide +kernel
theorem dX0_stretchWires_7 : decode cX0_stretchWires 7 = .ok (.if_icmp .ge 23, 3) := by decide +kernel
theorem dX0_stretchWires_10 : decode cX0_stretchWires 10 = .ok (.aload_n 0, 1) := by decide +kernel
theorem dX0_stretchWires_11 : decode cX0_stretchWires 11 = .ok (.getfield 24, 3) := by decide +kernel
theorem dX0_stretchWires_14 : decode cX0_stretchWires 14 = .ok (.iload_n 3, 1) := by decide +kernel
theorem dX0_stretchWires_15 : decode cX0_stretchWires 15 = .ok (.aload_n 0, 1) := by decide +kernel
theorem dX0_stretchWires_16 : decode cX0_stretchWires 16 = .ok (.getfield 21, 3) := by decide +kernel
theorem dX0_stretchWires_19 : decode cX0_stretchWires 19 = .ok (.iload_n 3, 1) := by decide +kernel
theorem dX0_stretchWires_20 : decode cX0_stretchWires 20 = .ok (.iaload, 1) := by decide +kernel
theorem dX0_stretchWires_21 : decode cX0_stretchWires 21 = .ok (.iload_n 2, 1) := by decide +kernel
theorem dX0_stretchWires_22 : decode cX0_stretchWires 22 = .ok (.imul, 1) := by decide +kernel
theorem dX0_stretchWires_23 : decode cX0_stretchWires 23 = .ok (.iastore, 1) := by decide +kernel
theorem dX0_stretchWires_24 : decode cX0_stretchWires 24 = .ok (.iinc 3 1, 3) := by decide +kernel
theorem dX0_stretchWires_27 : decode cX0_stretchWires 27 = .ok (.goto (-25), 3) := by decide +kernel
theorem dX0_stretchWires_30 : decode cX0_stretchWires 30 = .ok (.return_, 1) := by decide +kernel
theorem dX0_singTo_0 : decode cX0_singTo 0 = .ok (.iconst 0, 1) := by decide +kernel
theorem dX0_singTo_1 : decode cX0_singTo 1 = .ok (.istore_n 3, 1) := by decide +kernel
theorem dX0_singTo_2 : decode cX0_singTo 2 = .ok (.iload_n 3, 1) := by decide +kernel
theorem dX0_singTo_3 : decode cX0_singTo 3 = .ok (.aload_n 1, 1) := by decide +kernel
theorem dX0_singTo_4 : decode cX0_singTo 4 = .ok (.getfield 27, 3) := by decide +kernel
theorem dX0_singTo_7 : decode cX0_singTo 7 = .ok (.if_icmp .ge 36, 3) := by decide +kernel
theorem dX0_singTo_10 : decode cX0_singTo 10 = .ok (.aload_n 0, 1) := by decide +kernel
theorem dX0_singTo_11 : decode cX0_singTo 11 = .ok (.getfield 9, 3) := by decide +kernel
theorem dX0_singTo_14 : decode cX0_singTo 14 = .ok (.iload_n 3, 1) := by decide +kernel
theorem dX0_singTo_15 : decode cX0_singTo 15 = .ok (.aload_n 1, 1) := by decide +kernel
theorem dX0_singTo_16 : decode cX0_singTo 16 = .ok (.iload_n 3, 1) := by decide +kernel
theorem dX0_singTo_17 : decode cX0_singTo 17 = .ok (.iconst 0, 1) := by decide +kernel
theorem dX0_singTo_18 : decode cX0_singTo 18 = .ok (.invokevirtual 41, 3) := by decide +kernel
theorem dX0_singTo_21 : decode cX0_singTo 21 = .ok (.iconst 2, 1) := by decide +kernel
theorem dX0_singTo_22 : decode cX0_singTo 22 = .ok (.if_icmp .ne 13, 3) := by decide +kernel
theorem dX0_singTo_25 : decode cX0_singTo 25 = .ok (.aload_n 1, 1) := by decide +kernel
theorem dX0_singTo_26 : decode cX0_singTo 26 = .ok (.iload_n 3, 1) := by decide +kernel
theorem dX0_singTo_27 : decode cX0_singTo 27 = .ok (.iconst 3, 1) := by decide +kernel
theorem dX0_singTo_28 : decode cX0_singTo 28 = .ok (.invokevirtual 41, 3) := by decide +kernel
theorem dX0_singTo_31 : decode cX0_singTo 31 = .ok (.ineg, 1) := by decide +kernel
theorem dX0_singTo_32 : decode cX0_singTo 32 = .ok (.goto 4, 3) := by decide +kernel
theorem dX0_singTo_35 : decode cX0_singTo 35 = .ok (.iconst 0, 1) := by decide +kernel
theorem dX0_singTo_36 : decode cX0_singTo 36 = .ok (.iastore, 1) := by decide +kernel
theorem dX0_singTo_37 : decode cX0_singTo 37 = .ok (.iinc 3 1, 3) := by decide +kernel
theorem dX0_singTo_40 : decode cX0_singTo 40 = .ok (.goto (-38), 3) := by decide +kernel
theorem dX0_singTo_43 : decode cX0_singTo 43 = .ok (.iconst 1, 1) := by decide +kernel
theorem dX0_singTo_44 : decode cX0_singTo 44 = .ok (.istore_n 3, 1) := by decide +kernel
theorem dX0_singTo_45 : decode cX0_singTo 45 = .ok (.iload_n 3, 1) := by decide +kernel
theorem dX0_singTo_46 : decode cX0_singTo 46 = .ok (.iload_n 2, 1) := by decide +kernel
theorem dX0_singTo_47 : decode cX0_singTo 47 = .ok (.if_icmp .gt 75, 3) := by decide +kernel
theorem dX0_singTo_50 : decode cX0_singTo 50 = .ok (.aload_n 0, 1) := by decide +kernel
theorem dX0_singTo_51 : decode cX0_singTo 51 = .ok (.getfield 15, 3) := by decide +kernel
theorem dX0_singTo_54 : decode cX0_singTo 54 = .ok (.astore 4, 2) := by decide +kernel
theorem dX0_singTo_56 : decode cX0_singTo 56 = .ok (.aload_n 0, 1) := by decide +kernel
theorem dX0_singTo_57 : decode cX0_singTo 57 = .ok (.aload_n 0, 1) := by decide +kernel
theorem dX0_singTo_58 : decode cX0_singTo 58 = .ok (.getfield 9, 3) := by decide +kernel
theorem dX0_singTo_61 : decode cX0_singTo 61 = .ok (.putfield 15, 3) := by decide +kernel
theorem dX0_singTo_64 : decode cX0_singTo 64 = .ok (.aload_n 0, 1) := by decide +kernel
theorem dX0_singTo_65 : decode cX0_singTo 65 = .ok (.aload 4, 2) := by decide +kernel
theorem dX0_singTo_67 : decode cX0_singTo 67 = .ok (.putfield 9, 3) := by decide +kernel
theorem dX0_singTo_70 : decode cX0_singTo 70 = .ok (.iconst 0, 1) := by decide +kernel
theorem dX0_singTo_71 : decode cX0_singTo 71 = .ok (.istore 5, 2) := by decide +kernel
theorem dX0_singTo_73 : decode cX0_singTo 73 = .ok (.iload 5, 2) := by decide +kernel
theorem dX0_singTo_75 : decode cX0_singTo 75 = .ok (.aload_n 1, 1) := by decide +kernel
theorem dX0_singTo_76 : decode cX0_singTo 76 = .ok (.getfield 27, 3) := by decide +kernel
theorem dX0_singTo_79 : decode cX0_singTo 79 = .ok (.if_icmp .ge 37, 3) := by decide +kernel
theorem dX0_singTo_82 : decode cX0_singTo 82 = .ok (.aload_n 0, 1) := by decide +kernel
theorem dX0_singTo_83 : decode cX0_singTo 83 = .ok (.getfield 9, 3) := by decide +kernel
theorem dX0_singTo_86 : decode cX0_singTo 86 = .ok (.iload 5, 2) := by decide +kernel
theorem dX0_singTo_88 : decode cX0_singTo 88 = .ok (.aload_n 1, 1) := by decide +kernel
theorem dX0_singTo_89 : decode cX0_singTo 89 = .ok (.iload 5, 2) := by decide +kernel
theorem dX0_singTo_91 : decode cX0_singTo 91 = .ok (.invokevirtual 33, 3) := by decide +kernel
theorem dX0_singTo_94 : decode cX0_singTo 94 = .ok (.ifCond .eq 14, 3) := by decide +kernel
theorem dX0_singTo_97 : decode cX0_singTo 97 = .ok (.aload_n 0, 1) := by decide +kernel
theorem dX0_singTo_98 : decode cX0_singTo 98 = .ok (.aload_n 1, 1) := by decide +kernel
theorem dX0_singTo_99 : decode cX0_singTo 99 = .ok (.iload 5, 2) := by decide +kernel
theorem dX0_singTo_101 : decode cX0_singTo 101 = .ok (.iload_n 3, 1) := by decide +kernel
theorem dX0_singTo_102 : decode cX0_singTo 102 = .ok (.invokevirtual 44, 3) := by decide +kernel
theorem dX0_singTo_105 : decode cX0_singTo 105 = .ok (.goto 4, 3) := by decide +kernel
theorem dX0_singTo_108 : decode cX0_singTo 108 = .ok (.iconst 0, 1) := by decide +kernel
theorem dX0_singTo_109 : decode cX0_singTo 109 = .ok (.iastore, 1) := by decide +kernel
theorem dX0_singTo_110 : decode cX0_singTo 110 = .ok (.iinc 5 1, 3) := by decide +kernel
theorem dX0_singTo_113 : decode cX0_singTo 113 = .ok (.goto (-40), 3) := by decide +kernel
theorem dX0_singTo_116 : decode cX0_singTo 116 = .ok (.iinc 3 1, 3) := by decide +kernel
theorem dX0_singTo_119 : decode cX0_singTo 119 = .ok (.goto (-74), 3) := by decide +kernel
theorem dX0_singTo_122 : decode cX0_singTo 122 = .ok (.return_, 1) := by decide +kernel
theorem dX0_timeAt_0 : decode cX0_timeAt 0 = .ok (.aload_n 1, 1) := by decide +kernel
theorem dX0_timeAt_1 : decode cX0_timeAt 1 = .ok (.iload_n 2, 1) := by decide +kernel
theorem dX0_timeAt_2 : decode cX0_timeAt 2 = .ok (.iconst 0, 1) := by decide +kernel
theorem dX0_timeAt_3 : decode cX0_timeAt 3 = .ok (.invokevirtual 41, 3) := by decide +kernel
theorem dX0_timeAt_6 : decode cX0_timeAt 6 = .ok (.istore 4, 2) := by decide +kernel
theorem dX0_timeAt_8 : decode cX0_timeAt 8 = .ok (.iload 4, 2) := by decide +kernel
theorem dX0_timeAt_10 : decode cX0_timeAt 10 = .ok (.iconst 1, 1) := by decide +kernel
theorem dX0_timeAt_11 : decode cX0_timeAt 11 = .ok (.if_icmp .ne 10, 3) := by decide +kernel
theorem dX0_timeAt_14 : decode cX0_timeAt 14 = .ok (.iload_n 3, 1) := by decide +kernel
theorem dX0_timeAt_15 : decode cX0_timeAt 15 = .ok (.aload_n 1, 1) := by decide +kernel
theorem dX0_timeAt_16 : decode cX0_timeAt 16 = .ok (.getfield 48, 3) := by decide +kernel
theorem dX0_timeAt_19 : decode cX0_timeAt 19 = .ok (.imul, 1) := by decide +kernel
theorem dX0_timeAt_20 : decode cX0_timeAt 20 = .ok (.ireturn, 1) := by decide +kernel
theorem dX0_timeAt_21 : decode cX0_timeAt 21 = .ok (.iload 4, 2) := by decide +kernel
theorem dX0_timeAt_23 : decode cX0_timeAt 23 = .ok (.iconst 2, 1) := by decide +kernel
theorem dX0_timeAt_24 : decode cX0_timeAt 24 = .ok (.if_icmp .ne 17, 3) := by decide +kernel
theorem dX0_timeAt_27 : decode cX0_timeAt 27 = .ok (.iload_n 3, 1) := by decide +kernel
theorem dX0_timeAt_28 : decode cX0_timeAt 28 = .ok (.aload_n 1, 1) := by decide +kernel
theorem dX0_timeAt_29 : decode cX0_timeAt 29 = .ok (.getfield 48, 3) := by decide +kernel
theorem dX0_timeAt_32 : decode cX0_timeAt 32 = .ok (.imul, 1) := by decide +kernel
theorem dX0_timeAt_33 : decode cX0_timeAt 33 = .ok (.aload_n 1, 1) := by decide +kernel
theorem dX0_timeAt_34 : decode cX0_timeAt 34 = .ok (.iload_n 2, 1) := by decide +kernel
theorem dX0_timeAt_35 : decode cX0_timeAt 35 = .ok (.iconst 3, 1) := by decide +kernel
theorem dX0_timeAt_36 : decode cX0_timeAt 36 = .ok (.invokevirtual 41, 3) := by decide +kernel
theorem dX0_timeAt_39 : decode cX0_timeAt 39 = .ok (.isub, 1) := by decide +kernel
theorem dX0_timeAt_40 : decode cX0_timeAt 40 = .ok (.ireturn, 1) := by decide +kernel
theorem dX0_timeAt_41 : decode cX0_timeAt 41 = .ok (.aload_n 0, 1) := by decide +kernel
theorem dX0_timeAt_42 : decode cX0_timeAt 42 = .ok (.getfield 15, 3) := by decide +kernel
theorem dX0_timeAt_45 : decode cX0_timeAt 45 = .ok (.iload_n 2, 1) := by decide +kernel
theorem dX0_timeAt_46 : decode cX0_timeAt 46 = .ok (.iaload, 1) := by decide +kernel
theorem dX0_timeAt_47 : decode cX0_timeAt 47 = .ok (.istore 5, 2) := by decide +kernel
theorem dX0_timeAt_49 : decode cX0_timeAt 49 = .ok (.aload_n 0, 1) := by decide +kernel
theorem dX0_timeAt_50 : decode cX0_timeAt 50 = .ok (.iload_n 2, 1) := by decide +kernel
theorem dX0_timeAt_51 : decode cX0_timeAt 51 = .ok (.iload 4, 2) := by decide +kernel
theorem dX0_timeAt_53 : decode cX0_timeAt 53 = .ok (.iconst 3, 1) := by decide +kernel
theorem dX0_timeAt_54 : decode cX0_timeAt 54 = .ok (.if_icmp .ne 12, 3) := by decide +kernel
theorem dX0_timeAt_57 : decode cX0_timeAt 57 = .ok (.aload_n 1, 1) := by decide +kernel
theorem dX0_timeAt_58 : decode cX0_timeAt 58 = .ok (.iload_n 2, 1) := by decide +kernel
theorem dX0_timeAt_59 : decode cX0_timeAt 59 = .ok (.iconst 4, 1) := by decide +kernel
theorem dX0_timeAt_60 : decode cX0_timeAt 60 = .ok (.invokevirtual 41, 3) := by decide +kernel
theorem dX0_timeAt_63 : decode cX0_timeAt 63 = .ok (.goto 4, 3) := by decide +kernel
theorem dX0_timeAt_66 : decode cX0_timeAt 66 = .ok (.iconst 0, 1) := by decide +kernel
theorem dX0_timeAt_67 : decode cX0_timeAt 67 = .ok (.invokevirtual 51, 3) := by decide +kernel
theorem dX0_timeAt_70 : decode cX0_timeAt 70 = .ok (.istore 6, 2) := by decide +kernel
theorem dX0_timeAt_72 : decode cX0_timeAt 72 = .ok (.aload_n 1, 1) := by decide +kernel
theorem dX0_timeAt_73 : decode cX0_timeAt 73 = .ok (.iload_n 2, 1) := by decide +kernel
theorem dX0_timeAt_74 : decode cX0_timeAt 74 = .ok (.iconst 2, 1) := by decide +kernel
theorem dX0_timeAt_75 : decode cX0_timeAt 75 = .ok (.invokevirtual 41, 3) := by decide +kernel
theorem dX0_timeAt_78 : decode cX0_timeAt 78 = .ok (.iload 6, 2) := by decide +kernel
theorem dX0_timeAt_80 : decode cX0_timeAt 80 = .ok (.imul, 1) := by decide +kernel
theorem dX0_timeAt_81 : decode cX0_timeAt 81 = .ok (.bipush 100, 2) := by decide +kernel
theorem dX0_timeAt_83 : decode cX0_timeAt 83 = .ok (.idiv, 1) := by decide +kernel
theorem dX0_timeAt_84 : decode cX0_timeAt 84 = .ok (.istore 7, 2) := by decide +kernel
theorem dX0_timeAt_86 : decode cX0_timeAt 86 = .ok (.iload 5, 2) := by decide +kernel
theorem dX0_timeAt_88 : decode cX0_timeAt 88 = .ok (.iconst 1, 1) := by decide +kernel
theorem dX0_timeAt_89 : decode cX0_timeAt 89 = .ok (.iadd, 1) := by decide +kernel
theorem dX0_timeAt_90 : decode cX0_timeAt 90 = .ok (.iload 5, 2) := by decide +kernel
theorem dX0_timeAt_92 : decode cX0_timeAt 92 = .ok (.aload_n 1, 1) := by decide +kernel
theorem dX0_timeAt_93 : decode cX0_timeAt 93 = .ok (.getfield 48, 3) := by decide +kernel
theorem dX0_timeAt_96 : decode cX0_timeAt 96 = .ok (.iadd, 1) := by decide +kernel
theorem dX0_timeAt_97 : decode cX0_timeAt 97 = .ok (.aload_n 1, 1) := by decide +kernel
theorem dX0_timeAt_98 : decode cX0_timeAt 98 = .ok (.iload_n 2, 1) := by decide +kernel
theorem dX0_timeAt_99 : decode cX0_timeAt 99 = .ok (.iconst 1, 1) := by decide +kernel
theorem dX0_timeAt_100 : decode cX0_timeAt 100 = .ok (.invokevirtual 41, 3) := by decide +kernel
theorem dX0_timeAt_103 : decode cX0_timeAt 103 = .ok (.iadd, 1) := by decide +kernel
theorem dX0_timeAt_104 : decode cX0_timeAt 104 = .ok (.iload 7, 2) := by decide +kernel
theorem dX0_timeAt_106 : decode cX0_timeAt 106 = .ok (.iadd, 1) := by decide +kernel
theorem dX0_timeAt_107 : decode cX0_timeAt 107 = .ok (.invokestatic 54, 3) := by decide +kernel
theorem dX0_timeAt_110 : decode cX0_timeAt 110 = .ok (.ireturn, 1) := by decide +kernel
theorem dX0_meanLag_0 : decode cX0_meanLag 0 = .ok (.aload_n 0, 1) := by decide +kernel
theorem dX0_meanLag_1 : decode cX0_meanLag 1 = .ok (.getfield 21, 3) := by decide +kernel
theorem dX0_meanLag_4 : decode cX0_meanLag 4 = .ok (.iload_n 1, 1) := by decide +kernel
theorem dX0_meanLag_5 : decode cX0_meanLag 5 = .ok (.iaload, 1) := by decide +kernel
theorem dX0_meanLag_6 : decode cX0_meanLag 6 = .ok (.istore_n 3, 1) := by decide +kernel
theorem dX0_meanLag_7 : decode cX0_meanLag 7 = .ok (.iload_n 3, 1) := by decide +kernel
theorem dX0_meanLag_8 : decode cX0_meanLag 8 = .ok (.ifCond .ne 5, 3) := by decide +kernel
theorem dX0_meanLag_11 : decode cX0_meanLag 11 = .ok (.iconst 0, 1) := by decide +kernel
theorem dX0_meanLag_12 : decode cX0_meanLag 12 = .ok (.ireturn, 1) := by decide +kernel
theorem dX0_meanLag_13 : decode cX0_meanLag 13 = .ok (.aload_n 0, 1) := by decide +kernel
theorem dX0_meanLag_14 : decode cX0_meanLag 14 = .ok (.getfield 24, 3) := by decide +kernel
theorem dX0_meanLag_17 : decode cX0_meanLag 17 = .ok (.iload_n 1, 1) := by decide +kernel
theorem dX0_meanLag_18 : decode cX0_meanLag 18 = .ok (.iaload, 1) := by decide +kernel
theorem dX0_meanLag_19 : decode cX0_meanLag 19 = .ok (.iload_n 3, 1) := by decide +kernel
theorem dX0_meanLag_20 : decode cX0_meanLag 20 = .ok (.aload_n 0, 1) := by decide +kernel
theorem dX0_meanLag_21 : decode cX0_meanLag 21 = .ok (.getfield 15, 3) := by decide +kernel
theorem dX0_meanLag_24 : decode cX0_meanLag 24 = .ok (.iload_n 1, 1) := by decide +kernel
theorem dX0_meanLag_25 : decode cX0_meanLag 25 = .ok (.iaload, 1) := by decide +kernel
theorem dX0_meanLag_26 : decode cX0_meanLag 26 = .ok (.iload_n 2, 1) := by decide +kernel
theorem dX0_meanLag_27 : decode cX0_meanLag 27 = .ok (.iadd, 1) := by decide +kernel
theorem dX0_meanLag_28 : decode cX0_meanLag 28 = .ok (.imul, 1) := by decide +kernel
theorem dX0_meanLag_29 : decode cX0_meanLag 29 = .ok (.isub, 1) := by decide +kernel
theorem dX0_meanLag_30 : decode cX0_meanLag 30 = .ok (.istore 4, 2) := by decide +kernel
theorem dX0_meanLag_32 : decode cX0_meanLag 32 = .ok (.iconst 0, 1) := by decide +kernel
theorem dX0_meanLag_33 : decode cX0_meanLag 33 = .ok (.istore 5, 2) := by decide +kernel
theorem dX0_meanLag_35 : decode cX0_meanLag 35 = .ok (.iload 5, 2) := by decide +kernel
theorem dX0_meanLag_37 : decode cX0_meanLag 37 = .ok (.iload_n 3, 1) := by decide +kernel
theorem dX0_meanLag_38 : decode cX0_meanLag 38 = .ok (.if_icmp .ge 31, 3) := by decide +kernel
theorem dX0_meanLag_41 : decode cX0_meanLag 41 = .ok (.iload 4, 2) := by decide +kernel
theorem dX0_meanLag_43 : decode cX0_meanLag 43 = .ok (.aload_n 0, 1) := by decide +kernel
theorem dX0_meanLag_44 : decode cX0_meanLag 44 = .ok (.getfield 15, 3) := by decide +kernel
theorem dX0_meanLag_47 : decode cX0_meanLag 47 = .ok (.aload_n 0, 1) := by decide +kernel
theorem dX0_meanLag_48 : decode cX0_meanLag 48 = .ok (.getfield 18, 3) := by decide +kernel
theorem dX0_meanLag_51 : decode cX0_meanLag 51 = .ok (.iload_n 1, 1) := by decide +kernel
theorem dX0_meanLag_52 : decode cX0_meanLag 52 = .ok (.bipush 8, 2) := by decide +kernel
theorem dX0_meanLag_54 : decode cX0_meanLag 54 = .ok (.imul, 1) := by decide +kernel
theorem dX0_meanLag_55 : decode cX0_meanLag 55 = .ok (.iload 5, 2) := by decide +kernel
theorem dX0_meanLag_57 : decode cX0_meanLag 57 = .ok (.iadd, 1) := by decide +kernel
theorem dX0_meanLag_58 : decode cX0_meanLag 58 = .ok (.iaload, 1) := by decide +kernel
theorem dX0_meanLag_59 : decode cX0_meanLag 59 = .ok (.iaload, 1) := by decide +kernel
theorem dX0_meanLag_60 : decode cX0_meanLag 60 = .ok (.iadd, 1) := by decide +kernel
theorem dX0_meanLag_61 : decode cX0_meanLag 61 = .ok (.istore 4, 2) := by decide +kernel
theorem dX0_meanLag_63 : decode cX0_meanLag 63 = .ok (.iinc 5 1, 3) := by decide +kernel
theorem dX0_meanLag_66 : decode cX0_meanLag 66 = .ok (.goto (-31), 3) := by decide +kernel
theorem dX0_meanLag_69 : decode cX0_meanLag 69 = .ok (.iload 4, 2) := by decide +kernel
theorem dX0_meanLag_71 : decode cX0_meanLag 71 = .ok (.iload_n 3, 1) := by decide +kernel
theorem dX0_meanLag_72 : decode cX0_meanLag 72 = .ok (.idiv, 1) := by decide +kernel
theorem dX0_meanLag_73 : decode cX0_meanLag 73 = .ok (.ireturn, 1) := by decide +kernel
theorem dX0_timeOf_0 : decode cX0_timeOf 0 = .ok (.aload_n 0, 1) := by decide +kernel
theorem dX0_timeOf_1 : decode cX0_timeOf 1 = .ok (.getfield 9, 3) := by decide +kernel
theorem dX0_timeOf_4 : decode cX0_timeOf 4 = .ok (.iload_n 1, 1) := by decide +kernel
theorem dX0_timeOf_5 : decode cX0_timeOf 5 = .ok (.iaload, 1) := by decide +kernel
theorem dX0_timeOf_6 : decode cX0_timeOf 6 = .ok (.ireturn, 1) := by decide +kernel
theorem dX0_meanPace_0 : decode cX0_meanPace 0 = .ok (.iconst 0, 1) := by decide +kernel
theorem dX0_meanPace_1 : decode cX0_meanPace 1 = .ok (.istore_n 2, 1) := by decide +kernel
theorem dX0_meanPace_2 : decode cX0_meanPace 2 = .ok (.iconst 0, 1) := by decide +kernel
theorem dX0_meanPace_3 : decode cX0_meanPace 3 = .ok (.istore_n 3, 1) := by decide +kernel
theorem dX0_meanPace_4 : decode cX0_meanPace 4 = .ok (.iconst 0, 1) := by decide +kernel
theorem dX0_meanPace_5 : decode cX0_meanPace 5 = .ok (.istore 4, 2) := by decide +kernel
theorem dX0_meanPace_7 : decode cX0_meanPace 7 = .ok (.iload 4, 2) := by decide +kernel
theorem dX0_meanPace_9 : decode cX0_meanPace 9 = .ok (.aload_n 1, 1) := by decide +kernel
theorem dX0_meanPace_10 : decode cX0_meanPace 10 = .ok (.getfield 27, 3) := by decide +kernel
theorem dX0_meanPace_13 : decode cX0_meanPace 13 = .ok (.if_icmp .ge 39, 3) := by decide +kernel
theorem dX0_meanPace_16 : decode cX0_meanPace 16 = .ok (.aload_n 1, 1) := by decide +kernel
theorem dX0_meanPace_17 : decode cX0_meanPace 17 = .ok (.iload 4, 2) := by decide +kernel
theorem dX0_meanPace_19 : decode cX0_meanPace 19 = .ok (.invokevirtual 33, 3) := by decide +kernel
theorem dX0_meanPace_22 : decode cX0_meanPace 22 = .ok (.ifCond .eq 24, 3) := by decide +kernel
theorem dX0_meanPace_25 : decode cX0_meanPace 25 = .ok (.iload_n 2, 1) := by decide +kernel
theorem dX0_meanPace_26 : decode cX0_meanPace 26 = .ok (.aload_n 0, 1) := by decide +kernel
theorem dX0_meanPace_27 : decode cX0_meanPace 27 = .ok (.getfield 9, 3) := by decide +kernel
theorem dX0_meanPace_30 : decode cX0_meanPace 30 = .ok (.iload 4, 2) := by decide +kernel
theorem dX0_meanPace_32 : decode cX0_meanPace 32 = .ok (.iaload, 1) := by decide +kernel
theorem dX0_meanPace_33 : decode cX0_meanPace 33 = .ok (.aload_n 0, 1) := by decide +kernel
theorem dX0_meanPace_34 : decode cX0_meanPace 34 = .ok (.getfield 15, 3) := by decide +kernel
theorem dX0_meanPace_37 : decode cX0_meanPace 37 = .ok (.iload 4, 2) := by decide +kernel
theorem dX0_meanPace_39 : decode cX0_meanPace 39 = .ok (.iaload, 1) := by decide +kernel
theorem dX0_meanPace_40 : decode cX0_meanPace 40 = .ok (.isub, 1) := by decide +kernel
theorem dX0_meanPace_41 : decode cX0_meanPace 41 = .ok (.iadd, 1) := by decide +kernel
theorem dX0_meanPace_42 : decode cX0_meanPace 42 = .ok (.istore_n 2, 1) := by decide +kernel
theorem dX0_meanPace_43 : decode cX0_meanPace 43 = .ok (.iinc 3 1, 3) := by decide +kernel
theorem dX0_meanPace_46 : decode cX0_meanPace 46 = .ok (.iinc 4 1, 3) := by decide +kernel
theorem dX0_meanPace_49 : decode cX0_meanPace 49 = .ok (.goto (-42), 3) := by decide +kernel
theorem dX0_meanPace_52 : decode cX0_meanPace 52 = .ok (.iload_n 3, 1) := by decide +kernel
theorem dX0_meanPace_53 : decode cX0_meanPace 53 = .ok (.ifCond .ne 7, 3) := by decide +kernel
theorem dX0_meanPace_56 : decode cX0_meanPace 56 = .ok (.iconst 0, 1) := by decide +kernel
theorem dX0_meanPace_57 : decode cX0_meanPace 57 = .ok (.goto 6, 3) := by decide +kernel
theorem dX0_meanPace_60 : decode cX0_meanPace 60 = .ok (.iload_n 2, 1) := by decide +kernel
theorem dX0_meanPace_61 : decode cX0_meanPace 61 = .ok (.iload_n 3, 1) := by decide +kernel
theorem dX0_meanPace_62 : decode cX0_meanPace 62 = .ok (.idiv, 1) := by decide +kernel
theorem dX0_meanPace_63 : decode cX0_meanPace 63 = .ok (.ireturn, 1) := by decide +kernel
theorem dX0_spread_0 : decode cX0_spread 0 = .ok (.iconst 0, 1) := by decide +kernel
theorem dX0_spread_1 : decode cX0_spread 1 = .ok (.istore_n 2, 1) := by decide +kernel
theorem dX0_spread_2 : decode cX0_spread 2 = .ok (.iconst 0, 1) := by decide +kernel
theorem dX0_spread_3 : decode cX0_spread 3 = .ok (.istore_n 3, 1) := by decide +kernel
theorem dX0_spread_4 : decode cX0_spread 4 = .ok (.iconst 0, 1) := by decide +kernel
theorem dX0_spread_5 : decode cX0_spread 5 = .ok (.istore 4, 2) := by decide +kernel
theorem dX0_spread_7 : decode cX0_spread 7 = .ok (.iconst 0, 1) := by decide +kernel
theorem dX0_spread_8 : decode cX0_spread 8 = .ok (.istore 5, 2) := by decide +kernel
theorem dX0_spread_10 : decode cX0_spread 10 = .ok (.iload 5, 2) := by decide +kernel
theorem dX0_spread_12 : decode cX0_spread 12 = .ok (.aload_n 1, 1) := by decide +kernel
theorem dX0_spread_13 : decode cX0_spread 13 = .ok (.getfield 27, 3) := by decide +kernel
theorem dX0_spread_16 : decode cX0_spread 16 = .ok (.if_icmp .ge 74, 3) := by decide +kernel
theorem dX0_spread_19 : decode cX0_spread 19 = .ok (.aload_n 1, 1) := by decide +kernel
theorem dX0_spread_20 : decode cX0_spread 20 = .ok (.iload 5, 2) := by decide +kernel
theorem dX0_spread_22 : decode cX0_spread 22 = .ok (.invokevirtual 33, 3) := by decide +kernel
theorem dX0_spread_25 : decode cX0_spread 25 = .ok (.ifCond .eq 59, 3) := by decide +kernel
theorem dX0_spread_28 : decode cX0_spread 28 = .ok (.iload_n 2, 1) := by decide +kernel
theorem dX0_spread_29 : decode cX0_spread 29 = .ok (.ifCond .eq 17, 3) := by decide +kernel
theorem dX0_spread_32 : decode cX0_spread 32 = .ok (.iload_n 3, 1) := by decide +kernel
theorem dX0_spread_33 : decode cX0_spread 33 = .ok (.aload_n 0, 1) := by decide +kernel
theorem dX0_spread_34 : decode cX0_spread 34 = .ok (.getfield 9, 3) := by decide +kernel
theorem dX0_spread_37 : decode cX0_spread 37 = .ok (.iload 5, 2) := by decide +kernel
theorem dX0_spread_39 : decode cX0_spread 39 = .ok (.iaload, 1) := by decide +kernel
theorem dX0_spread_40 : decode cX0_spread 40 = .ok (.invokestatic 59, 3) := by decide +kernel
theorem dX0_spread_43 : decode cX0_spread 43 = .ok (.goto 10, 3) := by decide +kernel
theorem dX0_spread_46 : decode cX0_spread 46 = .ok (.aload_n 0, 1) := by decide +kernel
theorem dX0_spread_47 : decode cX0_spread 47 = .ok (.getfield 9, 3) := by decide +kernel
theorem dX0_spread_50 : decode cX0_spread 50 = .ok (.iload 5, 2) := by decide +kernel
theorem dX0_spread_52 : decode cX0_spread 52 = .ok (.iaload, 1) := by decide +kernel
theorem dX0_spread_53 : decode cX0_spread 53 = .ok (.istore_n 3, 1) := by decide +kernel
theorem dX0_spread_54 : decode cX0_spread 54 = .ok (.iload_n 2, 1) := by decide +kernel
theorem dX0_spread_55 : decode cX0_spread 55 = .ok (.ifCond .eq 18, 3) := by decide +kernel
theorem dX0_spread_58 : decode cX0_spread 58 = .ok (.iload 4, 2) := by decide +kernel
theorem dX0_spread_60 : decode cX0_spread 60 = .ok (.aload_n 0, 1) := by decide +kernel
theorem dX0_spread_61 : decode cX0_spread 61 = .ok (.getfield 9, 3) := by decide +kernel
theorem dX0_spread_64 : decode cX0_spread 64 = .ok (.iload 5, 2) := by decide +kernel
theorem dX0_spread_66 : decode cX0_spread 66 = .ok (.iaload, 1) := by decide +kernel
theorem dX0_spread_67 : decode cX0_spread 67 = .ok (.invokestatic 54, 3) := by decide +kernel
theorem dX0_spread_70 : decode cX0_spread 70 = .ok (.goto 10, 3) := by decide +kernel
theorem dX0_spread_73 : decode cX0_spread 73 = .ok (.aload_n 0, 1) := by decide +kernel
theorem dX0_spread_74 : decode cX0_spread 74 = .ok (.getfield 9, 3) := by decide +kernel
theorem dX0_spread_77 : decode cX0_spread 77 = .ok (.iload 5, 2) := by decide +kernel
theorem dX0_spread_79 : decode cX0_spread 79 = .ok (.iaload, 1) := by decide +kernel
theorem dX0_spread_80 : decode cX0_spread 80 = .ok (.istore 4, 2) := by decide +kernel
theorem dX0_spread_82 : decode cX0_spread 82 = .ok (.iconst 1, 1) := by decide +kernel
theorem dX0_spread_83 : decode cX0_spread 83 = .ok (.istore_n 2, 1) := by decide +kernel
theorem dX0_spread_84 : decode cX0_spread 84 = .ok (.iinc 5 1, 3) := by decide +kernel
theorem dX0_spread_87 : decode cX0_spread 87 = .ok (.goto (-77), 3) := by decide +kernel
theorem dX0_spread_90 : decode cX0_spread 90 = .ok (.iload 4, 2) := by decide +kernel
theorem dX0_spread_92 : decode cX0_spread 92 = .ok (.iload_n 3, 1) := by decide +kernel
theorem dX0_spread_93 : decode cX0_spread 93 = .ok (.isub, 1) := by decide +kernel
theorem dX0_spread_94 : decode cX0_spread 94 = .ok (.ireturn, 1) := by decide +kernel
theorem dX1_init_0 : decode cX1_init 0 = .ok (.aload_n 0, 1) := by decide +kernel
theorem dX1_init_1 : decode cX1_init 1 = .ok (.invokespecial 3, 3) := by decide +kernel
theorem dX1_init_4 : decode cX1_init 4 = .ok (.aload_n 0, 1) := by decide +kernel
theorem dX1_init_5 : decode cX1_init 5 = .ok (.new 9, 3) := by decide +kernel
theorem dX1_init_8 : decode cX1_init 8 = .ok (.dup, 1) := by decide +kernel
theorem dX1_init_9 : decode cX1_init 9 = .ok (.invokespecial 11, 3) := by decide +kernel
theorem dX1_init_12 : decode cX1_init 12 = .ok (.putfield 12, 3) := by decide +kernel
theorem dX1_init_15 : decode cX1_init 15 = .ok (.aload_n 0, 1) := by decide +kernel
theorem dX1_init_16 : decode cX1_init 16 = .ok (.new 18, 3) := by decide +kernel
theorem dX1_init_19 : decode cX1_init 19 = .ok (.dup, 1) := by decide +kernel
theorem dX1_init_20 : decode cX1_init 20 = .ok (.invokespecial 20, 3) := by decide +kernel
theorem dX1_init_23 : decode cX1_init 23 = .ok (.putfield 21, 3) := by decide +kernel
theorem dX1_init_26 : decode cX1_init 26 = .ok (.aload_n 0, 1) := by decide +kernel
theorem dX1_init_27 : decode cX1_init 27 = .ok (.new 25, 3) := by decide +kernel
theorem dX1_init_30 : decode cX1_init 30 = .ok (.dup, 1) := by decide +kernel
theorem dX1_init_31 : decode cX1_init 31 = .ok (.invokespecial 27, 3) := by decide +kernel
theorem dX1_init_34 : decode cX1_init 34 = .ok (.putfield 28, 3) := by decide +kernel
theorem dX1_init_37 : decode cX1_init 37 = .ok (.aload_n 0, 1) := by decide +kernel
theorem dX1_init_38 : decode cX1_init 38 = .ok (.bipush 21, 2) := by decide +kernel
theorem dX1_init_40 : decode cX1_init 40 = .ok (.putfield 32, 3) := by decide +kernel
theorem dX1_init_43 : decode cX1_init 43 = .ok (.return_, 1) := by decide +kernel
theorem dX1_take_0 : decode cX1_take 0 = .ok (.aload_n 0, 1) := by decide +kernel
theorem dX1_take_1 : decode cX1_take 1 = .ok (.getfield 12, 3) := by decide +kernel
theorem dX1_take_4 : decode cX1_take 4 = .ok (.aload_n 1, 1) := by decide +kernel
theorem dX1_take_5 : decode cX1_take 5 = .ok (.getfield 12, 3) := by decide +kernel
theorem dX1_take_8 : decode cX1_take 8 = .ok (.invokevirtual 36, 3) := by decide +kernel
theorem dX1_take_11 : decode cX1_take 11 = .ok (.aload_n 0, 1) := by decide +kernel
theorem dX1_take_12 : decode cX1_take 12 = .ok (.getfield 21, 3) := by decide +kernel
theorem dX1_take_15 : decode cX1_take 15 = .ok (.aload_n 1, 1) := by decide +kernel
theorem dX1_take_16 : decode cX1_take 16 = .ok (.getfield 21, 3) := by decide +kernel
theorem dX1_take_19 : decode cX1_take 19 = .ok (.invokevirtual 40, 3) := by decide +kernel
theorem dX1_take_22 : decode cX1_take 22 = .ok (.aload_n 0, 1) := by decide +kernel
theorem dX1_take_23 : decode cX1_take 23 = .ok (.getfield 28, 3) := by decide +kernel
theorem dX1_take_26 : decode cX1_take 26 = .ok (.aload_n 1, 1) := by decide +kernel
theorem dX1_take_27 : decode cX1_take 27 = .ok (.getfield 28, 3) := by decide +kernel
theorem dX1_take_30 : decode cX1_take 30 = .ok (.invokevirtual 43, 3) := by decide +kernel
theorem dX1_take_33 : decode cX1_take 33 = .ok (.aload_n 0, 1) := by decide +kernel
theorem dX1_take_34 : decode cX1_take 34 = .ok (.aload_n 1, 1) := by decide +kernel
theorem dX1_take_35 : decode cX1_take 35 = .ok (.getfield 32, 3) := by decide +kernel
theorem dX1_take_38 : decode cX1_take 38 = .ok (.putfield 32, 3) := by decide +kernel
theorem dX1_take_41 : decode cX1_take 41 = .ok (.return_, 1) := by decide +kernel
theorem dX2_init_0 : decode cX2_init 0 = .ok (.aload_n 0, 1) := by decide +kernel
theorem dX2_init_1 : decode cX2_init 1 = .ok (.invokespecial 3, 3) := by decide +kernel
theorem dX2_init_4 : decode cX2_init 4 = .ok (.aload_n 0, 1) := by decide +kernel
theorem dX2_init_5 : decode cX2_init 5 = .ok (.bipush 8, 2) := by decide +kernel
theorem dX2_init_7 : decode cX2_init 7 = .ok (.newarray .int, 2) := by decide +kernel
theorem dX2_init_9 : decode cX2_init 9 = .ok (.putfield 9, 3) := by decide +kernel
theorem dX2_init_12 : decode cX2_init 12 = .ok (.return_, 1) := by decide +kernel
theorem dX2_firstFailing_0 : decode cX2_firstFailing 0 = .ok (.aload_n 1, 1) := by decide +kernel
theorem dX2_firstFailing_1 : decode cX2_firstFailing 1 = .ok (.invokevirtual 15, 3) := by decide +kernel
theorem dX2_firstFailing_4 : decode cX2_firstFailing 4 = .ok (.iload_n 2, 1) := by decide +kernel
theorem dX2_firstFailing_5 : decode cX2_firstFailing 5 = .ok (.iconst (-1), 1) := by decide +kernel
theorem dX2_firstFailing_6 : decode cX2_firstFailing 6 = .ok (.ixor, 1) := by decide +kernel
theorem dX2_firstFailing_7 : decode cX2_firstFailing 7 = .ok (.iand, 1) := by decide +kernel
theorem dX2_firstFailing_8 : decode cX2_firstFailing 8 = .ok (.istore_n 3, 1) := by decide +kernel
theorem dX2_firstFailing_9 : decode cX2_firstFailing 9 = .ok (.iconst 0, 1) := by decide +kernel
theorem dX2_firstFailing_10 : decode cX2_firstFailing 10 = .ok (.istore 4, 2) := by decide +kernel
theorem dX2_firstFailing_12 : decode cX2_firstFailing 12 = .ok (.iconst 0, 1) := by decide +kernel
theorem dX2_firstFailing_13 : decode cX2_firstFailing 13 = .ok (.istore 5, 2) := by decide +kernel
theorem dX2_firstFailing_15 : decode cX2_firstFailing 15 = .ok (.iload 5, 2) := by decide +kernel
theorem dX2_firstFailing_17 : decode cX2_firstFailing 17 = .ok (.aload_n 1, 1) := by decide +kernel
theorem dX2_firstFailing_18 : decode cX2_firstFailing 18 = .ok (.getfield 21, 3) := by decide +kernel
theorem dX2_firstFailing_21 : decode cX2_firstFailing 21 = .ok (.if_icmp .ge 80, 3) := by decide +kernel
theorem dX2_firstFailing_24 : decode cX2_firstFailing 24 = .ok (.iload_n 3, 1) := by decide +kernel
theorem dX2_firstFailing_25 : decode cX2_firstFailing 25 = .ok (.ifCond .eq 76, 3) := by decide +kernel
theorem dX2_firstFailing_28 : decode cX2_firstFailing 28 = .ok (.iload_n 2, 1) := by decide +kernel
theorem dX2_firstFailing_29 : decode cX2_firstFailing 29 = .ok (.iload 5, 2) := by decide +kernel
theorem dX2_firstFailing_31 : decode cX2_firstFailing 31 = .ok (.ishr, 1) := by decide +kernel
theorem dX2_firstFailing_32 : decode cX2_firstFailing 32 = .ok (.iconst 1, 1) := by decide +kernel
theorem dX2_firstFailing_33 : decode cX2_firstFailing 33 = .ok (.iand, 1) := by decide +kernel
theorem dX2_firstFailing_34 : decode cX2_firstFailing 34 = .ok (.ifCond .ne 6, 3) := by decide +kernel
theorem dX2_firstFailing_37 : decode cX2_firstFailing 37 = .ok (.goto 58, 3) := by decide +kernel
theorem dX2_firstFailing_40 : decode cX2_firstFailing 40 = .ok (.aload_n 1, 1) := by decide +kernel
theorem dX2_firstFailing_41 : decode cX2_firstFailing 41 = .ok (.iload 5, 2) := by decide +kernel
theorem dX2_firstFailing_43 : decode cX2_firstFailing 43 = .ok (.invokevirtual 25, 3) := by decide +kernel
theorem dX2_firstFailing_46 : decode cX2_firstFailing 46 = .ok (.ifCond .ne 13, 3) := by decide +kernel
theorem dX2_firstFailing_49 : decode cX2_firstFailing 49 = .ok (.aload_n 1, 1) := by decide +kernel
theorem dX2_firstFailing_50 : decode cX2_firstFailing 50 = .ok (.iload 5, 2) := by decide +kernel
theorem dX2_firstFailing_52 : decode cX2_firstFailing 52 = .ok (.iload_n 3, 1) := by decide +kernel
theorem dX2_firstFailing_53 : decode cX2_firstFailing 53 = .ok (.invokevirtual 29, 3) := by decide +kernel
theorem dX2_firstFailing_56 : decode cX2_firstFailing 56 = .ok (.ifCond .ne 6, 3) := by decide +kernel
theorem dX2_firstFailing_59 : decode cX2_firstFailing 59 = .ok (.iload 5, 2) := by decide +kernel
theorem dX2_firstFailing_61 : decode cX2_firstFailing 61 = .ok (.ireturn, 1) := by decide +kernel
theorem dX2_firstFailing_62 : decode cX2_firstFailing 62 = .ok (.iload 4, 2) := by decide +kernel
theorem dX2_firstFailing_64 : decode cX2_firstFailing 64 = .ok (.ifCond .ne 17, 3) := by decide +kernel
theorem dX2_firstFailing_67 : decode cX2_firstFailing 67 = .ok (.aload_n 0, 1) := by decide +kernel
theorem dX2_firstFailing_68 : decode cX2_firstFailing 68 = .ok (.aload_n 1, 1) := by decide +kernel
theorem dX2_firstFailing_69 : decode cX2_firstFailing 69 = .ok (.iload 5, 2) := by decide +kernel
theorem dX2_firstFailing_71 : decode cX2_firstFailing 71 = .ok (.iload_n 3, 1) := by decide +kernel
theorem dX2_firstFailing_72 : decode cX2_firstFailing 72 = .ok (.invokevirtual 33, 3) := by decide +kernel
theorem dX2_firstFailing_75 : decode cX2_firstFailing 75 = .ok (.iconst 1, 1) := by decide +kernel
theorem dX2_firstFailing_76 : decode cX2_firstFailing 76 = .ok (.istore 4, 2) := by decide +kernel
theorem dX2_firstFailing_78 : decode cX2_firstFailing 78 = .ok (.goto 17, 3) := by decide +kernel
theorem dX2_firstFailing_81 : decode cX2_firstFailing 81 = .ok (.aload_n 0, 1) := by decide +kernel
theorem dX2_firstFailing_82 : decode cX2_firstFailing 82 = .ok (.aload_n 1, 1) := by decide +kernel
theorem dX2_firstFailing_83 : decode cX2_firstFailing 83 = .ok (.iload 5, 2) := by decide +kernel
theorem dX2_firstFailing_85 : decode cX2_firstFailing 85 = .ok (.iload_n 3, 1) := by decide +kernel
theorem dX2_firstFailing_86 : decode cX2_firstFailing 86 = .ok (.invokevirtual 37, 3) := by decide +kernel
theorem dX2_firstFailing_89 : decode cX2_firstFailing 89 = .ok (.ifCond .ne 6, 3) := by decide +kernel
theorem dX2_firstFailing_92 : decode cX2_firstFailing 92 = .ok (.iload 5, 2) := by decide +kernel
theorem dX2_firstFailing_94 : decode cX2_firstFailing 94 = .ok (.ireturn, 1) := by decide +kernel
theorem dX2_firstFailing_95 : decode cX2_firstFailing 95 = .ok (.iinc 5 1, 3) := by decide +kernel
theorem dX2_firstFailing_98 : decode cX2_firstFailing 98 = .ok (.goto (-83), 3) := by decide +kernel
theorem dX2_firstFailing_101 : decode cX2_firstFailing 101 = .ok (.bipush (-4), 2) := by decide +kernel
theorem dX2_firstFailing_103 : decode cX2_firstFailing 103 = .ok (.ireturn, 1) := by decide +kernel
theorem dX2_lead_0 : decode cX2_lead 0 = .ok (.aload_n 1, 1) := by decide +kernel
theorem dX2_lead_1 : decode cX2_lead 1 = .ok (.iload_n 2, 1) := by decide +kernel
theorem dX2_lead_2 : decode cX2_lead 2 = .ok (.iload_n 3, 1) := by decide +kernel
theorem dX2_lead_3 : decode cX2_lead 3 = .ok (.invokevirtual 41, 3) := by decide +kernel
theorem dX2_lead_6 : decode cX2_lead 6 = .ok (.istore 4, 2) := by decide +kernel
theorem dX2_lead_8 : decode cX2_lead 8 = .ok (.iconst 0, 1) := by decide +kernel
theorem dX2_lead_9 : decode cX2_lead 9 = .ok (.istore 5, 2) := by decide +kernel
theorem dX2_lead_11 : decode cX2_lead 11 = .ok (.iload 5, 2) := by decide +kernel
theorem dX2_lead_13 : decode cX2_lead 13 = .ok (.aload_n 1, 1) := by decide +kernel
theorem dX2_lead_14 : decode cX2_lead 14 = .ok (.getfield 21, 3) := by decide +kernel
theorem dX2_lead_17 : decode cX2_lead 17 = .ok (.if_icmp .ge 26, 3) := by decide +kernel
theorem dX2_lead_20 : decode cX2_lead 20 = .ok (.aload_n 0, 1) := by decide +kernel
theorem dX2_lead_21 : decode cX2_lead 21 = .ok (.getfield 9, 3) := by decide +kernel
theorem dX2_lead_24 : decode cX2_lead 24 = .ok (.iload 5, 2) := by decide +kernel
theorem dX2_lead_26 : decode cX2_lead 26 = .ok (.aload_n 1, 1) := by decide +kernel
theorem dX2_lead_27 : decode cX2_lead 27 = .ok (.iload 5, 2) := by decide +kernel
theorem dX2_lead_29 : decode cX2_lead 29 = .ok (.iload_n 2, 1) := by decide +kernel
theorem dX2_lead_30 : decode cX2_lead 30 = .ok (.invokevirtual 45, 3) := by decide +kernel
theorem dX2_lead_33 : decode cX2_lead 33 = .ok (.iload 4, 2) := by decide +kernel
theorem dX2_lead_35 : decode cX2_lead 35 = .ok (.isub, 1) := by decide +kernel
theorem dX2_lead_36 : decode cX2_lead 36 = .ok (.iastore, 1) := by decide +kernel
theorem dX2_lead_37 : decode cX2_lead 37 = .ok (.iinc 5 1, 3) := by decide +kernel
theorem dX2_lead_40 : decode cX2_lead 40 = .ok (.goto (-29), 3) := by decide +kernel
theorem dX2_lead_43 : decode cX2_lead 43 = .ok (.return_, 1) := by decide +kernel
theorem dX2_agrees_0 : decode cX2_agrees 0 = .ok (.aload_n 1, 1) := by decide +kernel
theorem dX2_agrees_1 : decode cX2_agrees 1 = .ok (.iload_n 2, 1) := by decide +kernel
theorem dX2_agrees_2 : decode cX2_agrees 2 = .ok (.iload_n 3, 1) := by decide +kernel
theorem dX2_agrees_3 : decode cX2_agrees 3 = .ok (.invokevirtual 41, 3) := by decide +kernel
theorem dX2_agrees_6 : decode cX2_agrees 6 = .ok (.istore 4, 2) := by decide +kernel
theorem dX2_agrees_8 : decode cX2_agrees 8 = .ok (.iconst 0, 1) := by decide +kernel
theorem dX2_agrees_9 : decode cX2_agrees 9 = .ok (.istore 5, 2) := by decide +kernel
theorem dX2_agrees_11 : decode cX2_agrees 11 = .ok (.iload 5, 2) := by decide +kernel
theorem dX2_agrees_13 : decode cX2_agrees 13 = .ok (.aload_n 1, 1) := by decide +kernel
theorem dX2_agrees_14 : decode cX2_agrees 14 = .ok (.getfield 21, 3) := by decide +kernel
theorem dX2_agrees_17 : decode cX2_agrees 17 = .ok (.if_icmp .ge 40, 3) := by decide +kernel
theorem dX2_agrees_20 : decode cX2_agrees 20 = .ok (.iload_n 3, 1) := by decide +kernel
theorem dX2_agrees_21 : decode cX2_agrees 21 = .ok (.iload 5, 2) := by decide +kernel
theorem dX2_agrees_23 : decode cX2_agrees 23 = .ok (.ishr, 1) := by decide +kernel
theorem dX2_agrees_24 : decode cX2_agrees 24 = .ok (.iconst 1, 1) := by decide +kernel
theorem dX2_agrees_25 : decode cX2_agrees 25 = .ok (.iand, 1) := by decide +kernel
theorem dX2_agrees_26 : decode cX2_agrees 26 = .ok (.ifCond .eq 25, 3) := by decide +kernel
theorem dX2_agrees_29 : decode cX2_agrees 29 = .ok (.aload_n 0, 1) := by decide +kernel
theorem dX2_agrees_30 : decode cX2_agrees 30 = .ok (.getfield 9, 3) := by decide +kernel
theorem dX2_agrees_33 : decode cX2_agrees 33 = .ok (.iload 5, 2) := by decide +kernel
theorem dX2_agrees_35 : decode cX2_agrees 35 = .ok (.iaload, 1) := by decide +kernel
theorem dX2_agrees_36 : decode cX2_agrees 36 = .ok (.aload_n 1, 1) := by decide +kernel
theorem dX2_agrees_37 : decode cX2_agrees 37 = .ok (.iload 5, 2) := by decide +kernel
theorem dX2_agrees_39 : decode cX2_agrees 39 = .ok (.iload_n 2, 1) := by decide +kernel
theorem dX2_agrees_40 : decode cX2_agrees 40 = .ok (.invokevirtual 45, 3) := by decide +kernel
theorem dX2_agrees_43 : decode cX2_agrees 43 = .ok (.iload 4, 2) := by decide +kernel
theorem dX2_agrees_45 : decode cX2_agrees 45 = .ok (.isub, 1) := by decide +kernel
theorem dX2_agrees_46 : decode cX2_agrees 46 = .ok (.if_icmp .eq 5, 3) := by decide +kernel
theorem dX2_agrees_49 : decode cX2_agrees 49 = .ok (.iconst 0, 1) := by decide +kernel
theorem dX2_agrees_50 : decode cX2_agrees 50 = .ok (.ireturn, 1) := by decide +kernel
theorem dX2_agrees_51 : decode cX2_agrees 51 = .ok (.iinc 5 1, 3) := by decide +kernel
theorem dX2_agrees_54 : decode cX2_agrees 54 = .ok (.goto (-43), 3) := by decide +kernel
theorem dX2_agrees_57 : decode cX2_agrees 57 = .ok (.iconst 1, 1) := by decide +kernel
theorem dX2_agrees_58 : decode cX2_agrees 58 = .ok (.ireturn, 1) := by decide +kernel
theorem dX2_leadOf_0 : decode cX2_leadOf 0 = .ok (.aload_n 0, 1) := by decide +kernel
theorem dX2_leadOf_1 : decode cX2_leadOf 1 = .ok (.getfield 9, 3) := by decide +kernel
theorem dX2_leadOf_4 : decode cX2_leadOf 4 = .ok (.iload_n 1, 1) := by decide +kernel
theorem dX2_leadOf_5 : decode cX2_leadOf 5 = .ok (.iaload, 1) := by decide +kernel
theorem dX2_leadOf_6 : decode cX2_leadOf 6 = .ok (.ireturn, 1) := by decide +kernel
theorem dX3_init_0 : decode cX3_init 0 = .ok (.aload_n 0, 1) := by decide +kernel
theorem dX3_init_1 : decode cX3_init 1 = .ok (.invokespecial 3, 3) := by decide +kernel
theorem dX3_init_4 : decode cX3_init 4 = .ok (.aload_n 0, 1) := by decide +kernel
theorem dX3_init_5 : decode cX3_init 5 = .ok (.bipush 8, 2) := by decide +kernel
theorem dX3_init_7 : decode cX3_init 7 = .ok (.newarray .long, 2) := by decide +kernel
theorem dX3_init_9 : decode cX3_init 9 = .ok (.putfield 9, 3) := by decide +kernel
theorem dX3_init_12 : decode cX3_init 12 = .ok (.return_, 1) := by decide +kernel
theorem dX3_take_0 : decode cX3_take 0 = .ok (.aload_n 0, 1) := by decide +kernel
theorem dX3_take_1 : decode cX3_take 1 = .ok (.aload_n 1, 1) := by decide +kernel
theorem dX3_take_2 : decode cX3_take 2 = .ok (.getfield 15, 3) := by decide +kernel
theorem dX3_take_5 : decode cX3_take 5 = .ok (.putfield 15, 3) := by decide +kernel
theorem dX3_take_8 : decode cX3_take 8 = .ok (.aload_n 1, 1) := by decide +kernel
theorem dX3_take_9 : decode cX3_take 9 = .ok (.getfield 9, 3) := by decide +kernel
theorem dX3_take_12 : decode cX3_take 12 = .ok (.iconst 0, 1) := by decide +kernel
theorem dX3_take_13 : decode cX3_take 13 = .ok (.aload_n 0, 1) := by decide +kernel
theorem dX3_take_14 : decode cX3_take 14 = .ok (.getfield 9, 3) := by decide +kernel
theorem dX3_take_17 : decode cX3_take 17 = .ok (.iconst 0, 1) := by decide +kernel
theorem dX3_take_18 : decode cX3_take 18 = .ok (.aload_n 0, 1) := by decide +kernel
theorem dX3_take_19 : decode cX3_take 19 = .ok (.getfield 9, 3) := by decide +kernel
theorem dX3_take_22 : decode cX3_take 22 = .ok (.arraylength, 1) := by decide +kernel
theorem dX3_take_23 : decode cX3_take 23 = .ok (.invokestatic 19, 3) := by decide +kernel
theorem dX3_take_26 : decode cX3_take 26 = .ok (.return_, 1) := by decide +kernel
theorem dX3_add_0 : decode cX3_add 0 = .ok (.aload_n 0, 1) := by decide +kernel
theorem dX3_add_1 : decode cX3_add 1 = .ok (.getfield 9, 3) := by decide +kernel
theorem dX3_add_4 : decode cX3_add 4 = .ok (.aload_n 0, 1) := by decide +kernel
theorem dX3_add_5 : decode cX3_add 5 = .ok (.getfield 15, 3) := by decide +kernel
theorem dX3_add_8 : decode cX3_add 8 = .ok (.lload_n 1, 1) := by decide +kernel
theorem dX3_add_9 : decode cX3_add 9 = .ok (.lastore, 1) := by decide +kernel
theorem dX3_add_10 : decode cX3_add 10 = .ok (.aload_n 0, 1) := by decide +kernel
theorem dX3_add_11 : decode cX3_add 11 = .ok (.dup, 1) := by decide +kernel
theorem dX3_add_12 : decode cX3_add 12 = .ok (.getfield 15, 3) := by decide +kernel
theorem dX3_add_15 : decode cX3_add 15 = .ok (.iconst 1, 1) := by decide +kernel
theorem dX3_add_16 : decode cX3_add 16 = .ok (.iadd, 1) := by decide +kernel
theorem dX3_add_17 : decode cX3_add 17 = .ok (.putfield 15, 3) := by decide +kernel
theorem dX3_add_20 : decode cX3_add 20 = .ok (.aload_n 0, 1) := by decide +kernel
theorem dX3_add_21 : decode cX3_add 21 = .ok (.getfield 15, 3) := by decide +kernel
theorem dX3_add_24 : decode cX3_add 24 = .ok (.iconst 1, 1) := by decide +kernel
theorem dX3_add_25 : decode cX3_add 25 = .ok (.isub, 1) := by decide +kernel
theorem dX3_add_26 : decode cX3_add 26 = .ok (.ireturn, 1) := by decide +kernel
theorem dX3_lostOf_0 : decode cX3_lostOf 0 = .ok (.iconst 0, 1) := by decide +kernel
theorem dX3_lostOf_1 : decode cX3_lostOf 1 = .ok (.istore_n 3, 1) := by decide +kernel
theorem dX3_lostOf_2 : decode cX3_lostOf 2 = .ok (.iconst 0, 1) := by decide +kernel
theorem dX3_lostOf_3 : decode cX3_lostOf 3 = .ok (.istore 4, 2) := by decide +kernel
theorem dX3_lostOf_5 : decode cX3_lostOf 5 = .ok (.iload 4, 2) := by decide +kernel
theorem dX3_lostOf_7 : decode cX3_lostOf 7 = .ok (.bipush 24, 2) := by decide +kernel
theorem dX3_lostOf_9 : decode cX3_lostOf 9 = .ok (.if_icmp .ge 101, 3) := by decide +kernel
theorem dX3_lostOf_12 : decode cX3_lostOf 12 = .ok (.iload 4, 2) := by decide +kernel
theorem dX3_lostOf_14 : decode cX3_lostOf 14 = .ok (.iload_n 2, 1) := by decide +kernel
theorem dX3_lostOf_15 : decode cX3_lostOf 15 = .ok (.imul, 1) := by decide +kernel
theorem dX3_lostOf_16 : decode cX3_lostOf 16 = .ok (.bipush 24, 2) := by decide +kernel
theorem dX3_lostOf_18 : decode cX3_lostOf 18 = .ok (.if_icmp .ge 92, 3) := by decide +kernel
theorem dX3_lostOf_21 : decode cX3_lostOf 21 = .ok (.bipush 24, 2) := by decide +kernel
theorem dX3_lostOf_23 : decode cX3_lostOf 23 = .ok (.iload 4, 2) := by decide +kernel
theorem dX3_lostOf_25 : decode cX3_lostOf 25 = .ok (.iload_n 2, 1) := by decide +kernel
theorem dX3_lostOf_26 : decode cX3_lostOf 26 = .ok (.imul, 1) := by decide +kernel
theorem dX3_lostOf_27 : decode cX3_lostOf 27 = .ok (.iload_n 2, 1) := by decide +kernel
theorem dX3_lostOf_28 : decode cX3_lostOf 28 = .ok (.iadd, 1) := by decide +kernel
theorem dX3_lostOf_29 : decode cX3_lostOf 29 = .ok (.invokestatic 25, 3) := by decide +kernel
theorem dX3_lostOf_32 : decode cX3_lostOf 32 = .ok (.istore 5, 2) := by decide +kernel
theorem dX3_lostOf_34 : decode cX3_lostOf 34 = .ok (.iconst 1, 1) := by decide +kernel
theorem dX3_lostOf_35 : decode cX3_lostOf 35 = .ok (.iload 5, 2) := by decide +kernel
theorem dX3_lostOf_37 : decode cX3_lostOf 37 = .ok (.ishl, 1) := by decide +kernel
theorem dX3_lostOf_38 : decode cX3_lostOf 38 = .ok (.iconst 1, 1) := by decide +kernel
theorem dX3_lostOf_39 : decode cX3_lostOf 39 = .ok (.iload 4, 2) := by decide +kernel
theorem dX3_lostOf_41 : decode cX3_lostOf 41 = .ok (.iload_n 2, 1) := by decide +kernel
theorem dX3_lostOf_42 : decode cX3_lostOf 42 = .ok (.imul, 1) := by decide +kernel
theorem dX3_lostOf_43 : decode cX3_lostOf 43 = .ok (.ishl, 1) := by decide +kernel
theorem dX3_lostOf_44 : decode cX3_lostOf 44 = .ok (.isub, 1) := by decide +kernel
theorem dX3_lostOf_45 : decode cX3_lostOf 45 = .ok (.istore 6, 2) := by decide +kernel
theorem dX3_lostOf_47 : decode cX3_lostOf 47 = .ok (.aload_n 0, 1) := by decide +kernel
theorem dX3_lostOf_48 : decode cX3_lostOf 48 = .ok (.getfield 9, 3) := by decide +kernel
theorem dX3_lostOf_51 : decode cX3_lostOf 51 = .ok (.iload_n 1, 1) := by decide +kernel
theorem dX3_lostOf_52 : decode cX3_lostOf 52 = .ok (.laload, 1) := by decide +kernel
theorem dX3_lostOf_53 : decode cX3_lostOf 53 = .ok (.l2i, 1) := by decide +kernel
theorem dX3_lostOf_54 : decode cX3_lostOf 54 = .ok (.iload 6, 2) := by decide +kernel
theorem dX3_lostOf_56 : decode cX3_lostOf 56 = .ok (.iand, 1) := by decide +kernel
theorem dX3_lostOf_57 : decode cX3_lostOf 57 = .ok (.istore 7, 2) := by decide +kernel
theorem dX3_lostOf_59 : decode cX3_lostOf 59 = .ok (.aload_n 0, 1) := by decide +kernel
theorem dX3_lostOf_60 : decode cX3_lostOf 60 = .ok (.getfield 9, 3) := by decide +kernel
theorem dX3_lostOf_63 : decode cX3_lostOf 63 = .ok (.iload_n 1, 1) := by decide +kernel
theorem dX3_lostOf_64 : decode cX3_lostOf 64 = .ok (.laload, 1) := by decide +kernel
theorem dX3_lostOf_65 : decode cX3_lostOf 65 = .ok (.bipush 24, 2) := by decide +kernel
theorem dX3_lostOf_67 : decode cX3_lostOf 67 = .ok (.iload 4, 2) := by decide +kernel
theorem dX3_lostOf_69 : decode cX3_lostOf 69 = .ok (.iadd, 1) := by decide +kernel
theorem dX3_lostOf_70 : decode cX3_lostOf 70 = .ok (.lshr, 1) := by decide +kernel
theorem dX3_lostOf_71 : decode cX3_lostOf 71 = .ok (.lconst 1, 1) := by decide +kernel
theorem dX3_lostOf_72 : decode cX3_lostOf 72 = .ok (.land, 1) := by decide +kernel
theorem dX3_lostOf_73 : decode cX3_lostOf 73 = .ok (.lconst 0, 1) := by decide +kernel
theorem dX3_lostOf_74 : decode cX3_lostOf 74 = .ok (.lcmp, 1) := by decide +kernel
theorem dX3_lostOf_75 : decode cX3_lostOf 75 = .ok (.ifCond .eq 7, 3) := by decide +kernel
theorem dX3_lostOf_78 : decode cX3_lostOf 78 = .ok (.iconst 1, 1) := by decide +kernel
theorem dX3_lostOf_79 : decode cX3_lostOf 79 = .ok (.goto 4, 3) := by decide +kernel
theorem dX3_lostOf_82 : decode cX3_lostOf 82 = .ok (.iconst 0, 1) := by decide +kernel
theorem dX3_lostOf_83 : decode cX3_lostOf 83 = .ok (.istore 8, 2) := by decide +kernel
theorem dX3_lostOf_85 : decode cX3_lostOf 85 = .ok (.iload 8, 2) := by decide +kernel
theorem dX3_lostOf_87 : decode cX3_lostOf 87 = .ok (.ifCond .ne 12, 3) := by decide +kernel
theorem dX3_lostOf_90 : decode cX3_lostOf 90 = .ok (.iload 7, 2) := by decide +kernel
theorem dX3_lostOf_92 : decode cX3_lostOf 92 = .ok (.invokestatic 31, 3) := by decide +kernel
theorem dX3_lostOf_95 : decode cX3_lostOf 95 = .ok (.iconst 1, 1) := by decide +kernel
theorem dX3_lostOf_96 : decode cX3_lostOf 96 = .ok (.if_icmp .le 8, 3) := by decide +kernel
theorem dX3_lostOf_99 : decode cX3_lostOf 99 = .ok (.iload_n 3, 1) := by decide +kernel
theorem dX3_lostOf_100 : decode cX3_lostOf 100 = .ok (.iload 7, 2) := by decide +kernel
theorem dX3_lostOf_102 : decode cX3_lostOf 102 = .ok (.ior, 1) := by decide +kernel
theorem dX3_lostOf_103 : decode cX3_lostOf 103 = .ok (.istore_n 3, 1) := by decide +kernel
theorem dX3_lostOf_104 : decode cX3_lostOf 104 = .ok (.iinc 4 1, 3) := by decide +kernel
theorem dX3_lostOf_107 : decode cX3_lostOf 107 = .ok (.goto (-102), 3) := by decide +kernel
theorem dX3_lostOf_110 : decode cX3_lostOf 110 = .ok (.iload_n 3, 1) := by decide +kernel
theorem dX3_lostOf_111 : decode cX3_lostOf 111 = .ok (.ireturn, 1) := by decide +kernel
theorem dX3_losesNothing_0 : decode cX3_losesNothing 0 = .ok (.iconst 0, 1) := by decide +kernel
theorem dX3_losesNothing_1 : decode cX3_losesNothing 1 = .ok (.istore_n 2, 1) := by decide +kernel
theorem dX3_losesNothing_2 : decode cX3_losesNothing 2 = .ok (.iload_n 2, 1) := by decide +kernel
theorem dX3_losesNothing_3 : decode cX3_losesNothing 3 = .ok (.aload_n 0, 1) := by decide +kernel
theorem dX3_losesNothing_4 : decode cX3_losesNothing 4 = .ok (.getfield 15, 3) := by decide +kernel
theorem dX3_losesNothing_7 : decode cX3_losesNothing 7 = .ok (.if_icmp .ge 20, 3) := by decide +kernel
theorem dX3_losesNothing_10 : decode cX3_losesNothing 10 = .ok (.aload_n 0, 1) := by decide +kernel
theorem dX3_losesNothing_11 : decode cX3_losesNothing 11 = .ok (.iload_n 2, 1) := by decide +kernel
theorem dX3_losesNothing_12 : decode cX3_losesNothing 12 = .ok (.iload_n 1, 1) := by decide +kernel
theorem dX3_losesNothing_13 : decode cX3_losesNothing 13 = .ok (.invokevirtual 37, 3) := by decide +kernel
theorem dX3_losesNothing_16 : decode cX3_losesNothing 16 = .ok (.ifCond .eq 5, 3) := by decide +kernel
theorem dX3_losesNothing_19 : decode cX3_losesNothing 19 = .ok (.iconst 0, 1) := by decide +kernel
theorem dX3_losesNothing_20 : decode cX3_losesNothing 20 = .ok (.ireturn, 1) := by decide +kernel
theorem dX3_losesNothing_21 : decode cX3_losesNothing 21 = .ok (.iinc 2 1, 3) := by decide +kernel
theorem dX3_losesNothing_24 : decode cX3_losesNothing 24 = .ok (.goto (-22), 3) := by decide +kernel
theorem dX3_losesNothing_27 : decode cX3_losesNothing 27 = .ok (.iconst 1, 1) := by decide +kernel
theorem dX3_losesNothing_28 : decode cX3_losesNothing 28 = .ok (.ireturn, 1) := by decide +kernel
theorem dX4_init_0 : decode cX4_init 0 = .ok (.aload_n 0, 1) := by decide +kernel
theorem dX4_init_1 : decode cX4_init 1 = .ok (.invokespecial 3, 3) := by decide +kernel
theorem dX4_init_4 : decode cX4_init 4 = .ok (.aload_n 0, 1) := by decide +kernel
theorem dX4_init_5 : decode cX4_init 5 = .ok (.bipush 6, 2) := by decide +kernel
theorem dX4_init_7 : decode cX4_init 7 = .ok (.newarray .int, 2) := by decide +kernel
theorem dX4_init_9 : decode cX4_init 9 = .ok (.putfield 9, 3) := by decide +kernel
theorem dX4_init_12 : decode cX4_init 12 = .ok (.aload_n 0, 1) := by decide +kernel
theorem dX4_init_13 : decode cX4_init 13 = .ok (.bipush 6, 2) := by decide +kernel
theorem dX4_init_15 : decode cX4_init 15 = .ok (.newarray .int, 2) := by decide +kernel
theorem dX4_init_17 : decode cX4_init 17 = .ok (.putfield 15, 3) := by decide +kernel
theorem dX4_init_20 : decode cX4_init 20 = .ok (.aload_n 0, 1) := by decide +kernel
theorem dX4_init_21 : decode cX4_init 21 = .ok (.bipush 6, 2) := by decide +kernel
theorem dX4_init_23 : decode cX4_init 23 = .ok (.newarray .int, 2) := by decide +kernel
theorem dX4_init_25 : decode cX4_init 25 = .ok (.putfield 18, 3) := by decide +kernel
theorem dX4_init_28 : decode cX4_init 28 = .ok (.aload_n 0, 1) := by decide +kernel
theorem dX4_init_29 : decode cX4_init 29 = .ok (.bipush 6, 2) := by decide +kernel
theorem dX4_init_31 : decode cX4_init 31 = .ok (.newarray .int, 2) := by decide +kernel
theorem dX4_init_33 : decode cX4_init 33 = .ok (.putfield 21, 3) := by decide +kernel
theorem dX4_init_36 : decode cX4_init 36 = .ok (.aload_n 0, 1) := by decide +kernel
theorem dX4_init_37 : decode cX4_init 37 = .ok (.bipush 6, 2) := by decide +kernel
theorem dX4_init_39 : decode cX4_init 39 = .ok (.newarray .int, 2) := by decide +kernel
theorem dX4_init_41 : decode cX4_init 41 = .ok (.putfield 24, 3) := by decide +kernel
theorem dX4_init_44 : decode cX4_init 44 = .ok (.aload_n 0, 1) := by decide +kernel
theorem dX4_init_45 : decode cX4_init 45 = .ok (.bipush 36, 2) := by decide +kernel
theorem dX4_init_47 : decode cX4_init 47 = .ok (.newarray .int, 2) := by decide +kernel
theorem dX4_init_49 : decode cX4_init 49 = .ok (.putfield 27, 3) := by decide +kernel
theorem dX4_init_52 : decode cX4_init 52 = .ok (.return_, 1) := by decide +kernel
theorem dX4_leastWait_0 : decode cX4_leastWait 0 = .ok (.aload_n 0, 1) := by decide +kernel
theorem dX4_leastWait_1 : decode cX4_leastWait 1 = .ok (.aload_n 1, 1) := by decide +kernel
theorem dX4_leastWait_2 : decode cX4_leastWait 2 = .ok (.invokevirtual 30, 3) := by decide +kernel
theorem dX4_leastWait_5 : decode cX4_leastWait 5 = .ok (.iconst 1, 1) := by decide +kernel
theorem dX4_leastWait_6 : decode cX4_leastWait 6 = .ok (.istore_n 2, 1) := by decide +kernel
theorem dX4_leastWait_7 : decode cX4_leastWait 7 = .ok (.iconst 0, 1) := by decide +kernel
theorem dX4_leastWait_8 : decode cX4_leastWait 8 = .ok (.istore_n 3, 1) := by decide +kernel
theorem dX4_leastWait_9 : decode cX4_leastWait 9 = .ok (.iload_n 3, 1) := by decide +kernel
theorem dX4_leastWait_10 : decode cX4_leastWait 10 = .ok (.aload_n 0, 1) := by decide +kernel
theorem dX4_leastWait_11 : decode cX4_leastWait 11 = .ok (.getfield 34, 3) := by decide +kernel
theorem dX4_leastWait_14 : decode cX4_leastWait 14 = .ok (.iconst 2, 1) := by decide +kernel
theorem dX4_leastWait_15 : decode cX4_leastWait 15 = .ok (.isub, 1) := by decide +kernel
theorem dX4_leastWait_16 : decode cX4_leastWait 16 = .ok (.if_icmp .ge 16, 3) := by decide +kernel
theorem dX4_leastWait_19 : decode cX4_leastWait 19 = .ok (.iload_n 2, 1) := by decide +kernel
theorem dX4_leastWait_20 : decode cX4_leastWait 20 = .ok (.aload_n 0, 1) := by decide +kernel
theorem dX4_leastWait_21 : decode cX4_leastWait 21 = .ok (.getfield 34, 3) := by decide +kernel
theorem dX4_leastWait_24 : decode cX4_leastWait 24 = .ok (.imul, 1) := by decide +kernel
theorem dX4_leastWait_25 : decode cX4_leastWait 25 = .ok (.istore_n 2, 1) := by decide +kernel
theorem dX4_leastWait_26 : decode cX4_leastWait 26 = .ok (.iinc 3 1, 3) := by decide +kernel
theorem dX4_leastWait_29 : decode cX4_leastWait 29 = .ok (.goto (-20), 3) := by decide +kernel
theorem dX4_leastWait_32 : decode cX4_leastWait 32 = .ok (.bipush (-4), 2) := by decide +kernel
theorem dX4_leastWait_34 : decode cX4_leastWait 34 = .ok (.istore_n 3, 1) := by decide +kernel
theorem dX4_leastWait_35 : decode cX4_leastWait 35 = .ok (.iconst 0, 1) := by decide +kernel
theorem dX4_leastWait_36 : decode cX4_leastWait 36 = .ok (.istore 4, 2) := by decide +kernel
theorem dX4_leastWait_38 : decode cX4_leastWait 38 = .ok (.iload 4, 2) := by decide +kernel
theorem dX4_leastWait_40 : decode cX4_leastWait 40 = .ok (.iload_n 2, 1) := by decide +kernel
theorem dX4_leastWait_41 : decode cX4_leastWait 41 = .ok (.if_icmp .ge 44, 3) := by decide +kernel
theorem dX4_leastWait_44 : decode cX4_leastWait 44 = .ok (.aload_n 0, 1) := by decide +kernel
theorem dX4_leastWait_45 : decode cX4_leastWait 45 = .ok (.aload_n 1, 1) := by decide +kernel
theorem dX4_leastWait_46 : decode cX4_leastWait 46 = .ok (.iload 4, 2) := by decide +kernel
theorem dX4_leastWait_48 : decode cX4_leastWait 48 = .ok (.invokevirtual 38, 3) := by decide +kernel
theorem dX4_leastWait_51 : decode cX4_leastWait 51 = .ok (.ifCond .eq 28, 3) := by decide +kernel
theorem dX4_leastWait_54 : decode cX4_leastWait 54 = .ok (.aload_n 0, 1) := by decide +kernel
theorem dX4_leastWait_55 : decode cX4_leastWait 55 = .ok (.aload_n 1, 1) := by decide +kernel
theorem dX4_leastWait_56 : decode cX4_leastWait 56 = .ok (.invokevirtual 42, 3) := by decide +kernel
theorem dX4_leastWait_59 : decode cX4_leastWait 59 = .ok (.istore 5, 2) := by decide +kernel
theorem dX4_leastWait_61 : decode cX4_leastWait 61 = .ok (.iload_n 3, 1) := by decide +kernel
theorem dX4_leastWait_62 : decode cX4_leastWait 62 = .ok (.bipush (-4), 2) := by decide +kernel
theorem dX4_leastWait_64 : decode cX4_leastWait 64 = .ok (.if_icmp .ne 8, 3) := by decide +kernel
theorem dX4_leastWait_67 : decode cX4_leastWait 67 = .ok (.iload 5, 2) := by decide +kernel
theorem dX4_leastWait_69 : decode cX4_leastWait 69 = .ok (.goto 9, 3) := by decide +kernel
theorem dX4_leastWait_72 : decode cX4_leastWait 72 = .ok (.iload_n 3, 1) := by decide +kernel
theorem dX4_leastWait_73 : decode cX4_leastWait 73 = .ok (.iload 5, 2) := by decide +kernel
theorem dX4_leastWait_75 : decode cX4_leastWait 75 = .ok (.invokestatic 46, 3) := by decide +kernel
theorem dX4_leastWait_78 : decode cX4_leastWait 78 = .ok (.istore_n 3, 1) := by decide +kernel
theorem dX4_leastWait_79 : decode cX4_leastWait 79 = .ok (.iinc 4 1, 3) := by decide +kernel
theorem dX4_leastWait_82 : decode cX4_leastWait 82 = .ok (.goto (-44), 3) := by decide +kernel
theorem dX4_leastWait_85 : decode cX4_leastWait 85 = .ok (.iload_n 3, 1) := by decide +kernel
theorem dX4_leastWait_86 : decode cX4_leastWait 86 = .ok (.ireturn, 1) := by decide +kernel
theorem dX4_gather_0 : decode cX4_gather 0 = .ok (.aload_n 0, 1) := by decide +kernel
theorem dX4_gather_1 : decode cX4_gather 1 = .ok (.iconst 0, 1) := by decide +kernel
theorem dX4_gather_2 : decode cX4_gather 2 = .ok (.putfield 34, 3) := by decide +kernel
theorem dX4_gather_5 : decode cX4_gather 5 = .ok (.iconst 0, 1) := by decide +kernel
theorem dX4_gather_6 : decode cX4_gather 6 = .ok (.istore_n 2, 1) := by decide +kernel
theorem dX4_gather_7 : decode cX4_gather 7 = .ok (.iload_n 2, 1) := by decide +kernel
theorem dX4_gather_8 : decode cX4_gather 8 = .ok (.aload_n 1, 1) := by decide +kernel
theorem dX4_gather_9 : decode cX4_gather 9 = .ok (.getfield 52, 3) := by decide +kernel
theorem dX4_gather_12 : decode cX4_gather 12 = .ok (.if_icmp .ge 46, 3) := by decide +kernel
theorem dX4_gather_15 : decode cX4_gather 15 = .ok (.aload_n 0, 1) := by decide +kernel
theorem dX4_gather_16 : decode cX4_gather 16 = .ok (.getfield 34, 3) := by decide +kernel
theorem dX4_gather_19 : decode cX4_gather 19 = .ok (.bipush 6, 2) := by decide +kernel
theorem dX4_gather_21 : decode cX4_gather 21 = .ok (.if_icmp .ge 37, 3) := by decide +kernel
theorem dX4_gather_24 : decode cX4_gather 24 = .ok (.aload_n 1, 1) := by decide +kernel
theorem dX4_gather_25 : decode cX4_gather 25 = .ok (.iload_n 2, 1) := by decide +kernel
theorem dX4_gather_26 : decode cX4_gather 26 = .ok (.invokevirtual 57, 3) := by decide +kernel
theorem dX4_gather_29 : decode cX4_gather 29 = .ok (.ifCond .ne 23, 3) := by decide +kernel
theorem dX4_gather_32 : decode cX4_gather 32 = .ok (.aload_n 0, 1) := by decide +kernel
theorem dX4_gather_33 : decode cX4_gather 33 = .ok (.getfield 9, 3) := by decide +kernel
theorem dX4_gather_36 : decode cX4_gather 36 = .ok (.aload_n 0, 1) := by decide +kernel
theorem dX4_gather_37 : decode cX4_gather 37 = .ok (.getfield 34, 3) := by decide +kernel
theorem dX4_gather_40 : decode cX4_gather 40 = .ok (.iload_n 2, 1) := by decide +kernel
theorem dX4_gather_41 : decode cX4_gather 41 = .ok (.iastore, 1) := by decide +kernel
theorem dX4_gather_42 : decode cX4_gather 42 = .ok (.aload_n 0, 1) := by decide +kernel
theorem dX4_gather_43 : decode cX4_gather 43 = .ok (.dup, 1) := by decide +kernel
theorem dX4_gather_44 : decode cX4_gather 44 = .ok (.getfield 34, 3) := by decide +kernel
theorem dX4_gather_47 : decode cX4_gather 47 = .ok (.iconst 1, 1) := by decide +kernel
theorem dX4_gather_48 : decode cX4_gather 48 = .ok (.iadd, 1) := by decide +kernel
theorem dX4_gather_49 : decode cX4_gather 49 = .ok (.putfield 34, 3) := by decide +kernel
theorem dX4_gather_52 : decode cX4_gather 52 = .ok (.iinc 2 1, 3) := by decide +kernel
theorem dX4_gather_55 : decode cX4_gather 55 = .ok (.goto (-48), 3) := by decide +kernel
theorem dX4_gather_58 : decode cX4_gather 58 = .ok (.return_, 1) := by decide +kernel
theorem dX4_decode_0 : decode cX4_decode 0 = .ok (.aload_n 0, 1) := by decide +kernel
theorem dX4_decode_1 : decode cX4_decode 1 = .ok (.getfield 18, 3) := by decide +kernel
theorem dX4_decode_4 : decode cX4_decode 4 = .ok (.iconst 1, 1) := by decide +kernel
theorem dX4_decode_5 : decode cX4_decode 5 = .ok (.invokestatic 61, 3) := by decide +kernel
theorem dX4_decode_8 : decode cX4_decode 8 = .ok (.iload_n 2, 1) := by decide +kernel
theorem dX4_decode_9 : decode cX4_decode 9 = .ok (.istore_n 3, 1) := by decide +kernel
theorem dX4_decode_10 : decode cX4_decode 10 = .ok (.iconst 0, 1) := by decide +kernel
theorem dX4_decode_11 : decode cX4_decode 11 = .ok (.istore 4, 2) := by decide +kernel
theorem dX4_decode_13 : decode cX4_decode 13 = .ok (.iload 4, 2) := by decide +kernel
theorem dX4_decode_15 : decode cX4_decode 15 = .ok (.aload_n 0, 1) := by decide +kernel
theorem dX4_decode_16 : decode cX4_decode 16 = .ok (.getfield 34, 3) := by decide +kernel
theorem dX4_decode_19 : decode cX4_decode 19 = .ok (.iconst 2, 1) := by decide +kernel
theorem dX4_decode_20 : decode cX4_decode 20 = .ok (.isub, 1) := by decide +kernel
theorem dX4_decode_21 : decode cX4_decode 21 = .ok (.if_icmp .ge 45, 3) := by decide +kernel
theorem dX4_decode_24 : decode cX4_decode 24 = .ok (.aload_n 0, 1) := by decide +kernel
theorem dX4_decode_25 : decode cX4_decode 25 = .ok (.getfield 15, 3) := by decide +kernel
theorem dX4_decode_28 : decode cX4_decode 28 = .ok (.iload 4, 2) := by decide +kernel
theorem dX4_decode_30 : decode cX4_decode 30 = .ok (.iload_n 3, 1) := by decide +kernel
theorem dX4_decode_31 : decode cX4_decode 31 = .ok (.aload_n 0, 1) := by decide +kernel
theorem dX4_decode_32 : decode cX4_decode 32 = .ok (.getfield 34, 3) := by decide +kernel
theorem dX4_decode_35 : decode cX4_decode 35 = .ok (.irem, 1) := by decide +kernel
theorem dX4_decode_36 : decode cX4_decode 36 = .ok (.iastore, 1) := by decide +kernel
theorem dX4_decode_37 : decode cX4_decode 37 = .ok (.iload_n 3, 1) := by decide +kernel
theorem dX4_decode_38 : decode cX4_decode 38 = .ok (.aload_n 0, 1) := by decide +kernel
theorem dX4_decode_39 : decode cX4_decode 39 = .ok (.getfield 34, 3) := by decide +kernel
theorem dX4_decode_42 : decode cX4_decode 42 = .ok (.idiv, 1) := by decide +kernel
theorem dX4_decode_43 : decode cX4_decode 43 = .ok (.istore_n 3, 1) := by decide +kernel
theorem dX4_decode_44 : decode cX4_decode 44 = .ok (.aload_n 0, 1) := by decide +kernel
theorem dX4_decode_45 : decode cX4_decode 45 = .ok (.getfield 18, 3) := by decide +kernel
theorem dX4_decode_48 : decode cX4_decode 48 = .ok (.aload_n 0, 1) := by decide +kernel
theorem dX4_decode_49 : decode cX4_decode 49 = .ok (.getfield 15, 3) := by decide +kernel
theorem dX4_decode_52 : decode cX4_decode 52 = .ok (.iload 4, 2) := by decide +kernel
theorem dX4_decode_54 : decode cX4_decode 54 = .ok (.iaload, 1) := by decide +kernel
theorem dX4_decode_55 : decode cX4_decode 55 = .ok (.dup2, 1) := by decide +kernel
theorem dX4_decode_56 : decode cX4_decode 56 = .ok (.iaload, 1) := by decide +kernel
theorem dX4_decode_57 : decode cX4_decode 57 = .ok (.iconst 1, 1) := by decide +kernel
theorem dX4_decode_58 : decode cX4_decode 58 = .ok (.iadd, 1) := by decide +kernel
theorem dX4_decode_59 : decode cX4_decode 59 = .ok (.iastore, 1) := by decide +kernel
theorem dX4_decode_60 : decode cX4_decode 60 = .ok (.iinc 4 1, 3) := by decide +kernel
theorem dX4_decode_63 : decode cX4_decode 63 = .ok (.goto (-50), 3) := by decide +kernel
theorem dX4_decode_66 : decode cX4_decode 66 = .ok (.iconst 0, 1) := by decide +kernel
theorem dX4_decode_67 : decode cX4_decode 67 = .ok (.istore 4, 2) := by decide +kernel
theorem dX4_decode_69 : decode cX4_decode 69 = .ok (.iload 4, 2) := by decide +kernel
theorem dX4_decode_71 : decode cX4_decode 71 = .ok (.aload_n 0, 1) := by decide +kernel
theorem dX4_decode_72 : decode cX4_decode 72 = .ok (.getfield 34, 3) := by decide +kernel
theorem dX4_decode_75 : decode cX4_decode 75 = .ok (.if_icmp .ge 25, 3) := by decide +kernel
theorem dX4_decode_78 : decode cX4_decode 78 = .ok (.aload_n 0, 1) := by decide +kernel
theorem dX4_decode_79 : decode cX4_decode 79 = .ok (.getfield 18, 3) := by decide +kernel
theorem dX4_decode_82 : decode cX4_decode 82 = .ok (.iload 4, 2) := by decide +kernel
theorem dX4_decode_84 : decode cX4_decode 84 = .ok (.iaload, 1) := by decide +kernel
theorem dX4_decode_85 : decode cX4_decode 85 = .ok (.aload_n 1, 1) := by decide +kernel
theorem dX4_decode_86 : decode cX4_decode 86 = .ok (.getfield 67, 3) := by decide +kernel
theorem dX4_decode_89 : decode cX4_decode 89 = .ok (.if_icmp .le 5, 3) := by decide +kernel
theorem dX4_decode_92 : decode cX4_decode 92 = .ok (.iconst 0, 1) := by decide +kernel
theorem dX4_decode_93 : decode cX4_decode 93 = .ok (.ireturn, 1) := by decide +kernel
theorem dX4_decode_94 : decode cX4_decode 94 = .ok (.iinc 4 1, 3) := by decide +kernel
theorem dX4_decode_97 : decode cX4_decode 97 = .ok (.goto (-28), 3) := by decide +kernel
theorem dX4_decode_100 : decode cX4_decode 100 = .ok (.iconst 0, 1) := by decide +kernel
theorem dX4_decode_101 : decode cX4_decode 101 = .ok (.istore 4, 2) := by decide +kernel
theorem dX4_decode_103 : decode cX4_decode 103 = .ok (.iload 4, 2) := by decide +kernel
theorem dX4_decode_105 : decode cX4_decode 105 = .ok (.aload_n 0, 1) := by decide +kernel
theorem dX4_decode_106 : decode cX4_decode 106 = .ok (.getfield 34, 3) := by decide +kernel
theorem dX4_decode_109 : decode cX4_decode 109 = .ok (.iconst 1, 1) := by decide +kernel
theorem dX4_decode_110 : decode cX4_decode 110 = .ok (.isub, 1) := by decide +kernel
theorem dX4_decode_111 : decode cX4_decode 111 = .ok (.if_icmp .ge 114, 3) := by decide +kernel
theorem dX4_decode_114 : decode cX4_decode 114 = .ok (.aload_n 0, 1) := by decide +kernel
theorem dX4_decode_115 : decode cX4_decode 115 = .ok (.getfield 21, 3) := by decide +kernel
theorem dX4_decode_118 : decode cX4_decode 118 = .ok (.iload 4, 2) := by decide +kernel
theorem dX4_decode_120 : decode cX4_decode 120 = .ok (.aload_n 0, 1) := by decide +kernel
theorem dX4_decode_121 : decode cX4_decode 121 = .ok (.invokevirtual 70, 3) := by decide +kernel
theorem dX4_decode_124 : decode cX4_decode 124 = .ok (.iastore, 1) := by decide +kernel
theorem dX4_decode_125 : decode cX4_decode 125 = .ok (.aload_n 0, 1) := by decide +kernel
theorem dX4_decode_126 : decode cX4_decode 126 = .ok (.getfield 24, 3) := by decide +kernel
theorem dX4_decode_129 : decode cX4_decode 129 = .ok (.iload 4, 2) := by decide +kernel
theorem dX4_decode_131 : decode cX4_decode 131 = .ok (.iload 4, 2) := by decide +kernel
theorem dX4_decode_133 : decode cX4_decode 133 = .ok (.aload_n 0, 1) := by decide +kernel
theorem dX4_decode_134 : decode cX4_decode 134 = .ok (.getfield 34, 3) := by decide +kernel
theorem dX4_decode_137 : decode cX4_decode 137 = .ok (.iconst 2, 1) := by decide +kernel
theorem dX4_decode_138 : decode cX4_decode 138 = .ok (.isub, 1) := by decide +kernel
theorem dX4_decode_139 : decode cX4_decode 139 = .ok (.if_icmp .ge 13, 3) := by decide +kernel
theorem dX4_decode_142 : decode cX4_decode 142 = .ok (.aload_n 0, 1) := by decide +kernel
theorem dX4_decode_143 : decode cX4_decode 143 = .ok (.getfield 15, 3) := by decide +kernel
theorem dX4_decode_146 : decode cX4_decode 146 = .ok (.iload 4, 2) := by decide +kernel
theorem dX4_decode_148 : decode cX4_decode 148 = .ok (.iaload, 1) := by decide +kernel
theorem dX4_decode_149 : decode cX4_decode 149 = .ok (.goto 7, 3) := by decide +kernel
theorem dX4_decode_152 : decode cX4_decode 152 = .ok (.aload_n 0, 1) := by decide +kernel
theorem dX4_decode_153 : decode cX4_decode 153 = .ok (.invokevirtual 70, 3) := by decide +kernel
theorem dX4_decode_156 : decode cX4_decode 156 = .ok (.iastore, 1) := by decide +kernel
theorem dX4_decode_157 : decode cX4_decode 157 = .ok (.aload_n 0, 1) := by decide +kernel
theorem dX4_decode_158 : decode cX4_decode 158 = .ok (.getfield 18, 3) := by decide +kernel
theorem dX4_decode_161 : decode cX4_decode 161 = .ok (.aload_n 0, 1) := by decide +kernel
theorem dX4_decode_162 : decode cX4_decode 162 = .ok (.getfield 24, 3) := by decide +kernel
theorem dX4_decode_165 : decode cX4_decode 165 = .ok (.iload 4, 2) := by decide +kernel
theorem dX4_decode_167 : decode cX4_decode 167 = .ok (.iaload, 1) := by decide +kernel
theorem dX4_decode_168 : decode cX4_decode 168 = .ok (.dup2, 1) := by decide +kernel
theorem dX4_decode_169 : decode cX4_decode 169 = .ok (.iaload, 1) := by decide +kernel
theorem dX4_decode_170 : decode cX4_decode 170 = .ok (.iconst 1, 1) := by decide +kernel
theorem dX4_decode_171 : decode cX4_decode 171 = .ok (.isub, 1) := by decide +kernel
theorem dX4_decode_172 : decode cX4_decode 172 = .ok (.iastore, 1) := by decide +kernel
theorem dX4_decode_173 : decode cX4_decode 173 = .ok (.aload_n 0, 1) := by decide +kernel
theorem dX4_decode_174 : decode cX4_decode 174 = .ok (.aload_n 1, 1) := by decide +kernel
theorem dX4_decode_175 : decode cX4_decode 175 = .ok (.aload_n 0, 1) := by decide +kernel
theorem dX4_decode_176 : decode cX4_decode 176 = .ok (.getfield 21, 3) := by decide +kernel
theorem dX4_decode_179 : decode cX4_decode 179 = .ok (.iload 4, 2) := by decide +kernel
theorem dX4_decode_181 : decode cX4_decode 181 = .ok (.iaload, 1) := by decide +kernel
theorem dX4_decode_182 : decode cX4_decode 182 = .ok (.aload_n 0, 1) := by decide +kernel
theorem dX4_decode_183 : decode cX4_decode 183 = .ok (.getfield 24, 3) := by decide +kernel
theorem dX4_decode_186 : decode cX4_decode 186 = .ok (.iload 4, 2) := by decide +kernel
theorem dX4_decode_188 : decode cX4_decode 188 = .ok (.iaload, 1) := by decide +kernel
theorem dX4_decode_189 : decode cX4_decode 189 = .ok (.invokevirtual 74, 3) := by decide +kernel
theorem dX4_decode_192 : decode cX4_decode 192 = .ok (.ifCond .eq 25, 3) := by decide +kernel
theorem dX4_decode_195 : decode cX4_decode 195 = .ok (.aload_n 0, 1) := by decide +kernel
theorem dX4_decode_196 : decode cX4_decode 196 = .ok (.aload_n 1, 1) := by decide +kernel
theorem dX4_decode_197 : decode cX4_decode 197 = .ok (.aload_n 0, 1) := by decide +kernel
theorem dX4_decode_198 : decode cX4_decode 198 = .ok (.getfield 24, 3) := by decide +kernel
theorem dX4_decode_201 : decode cX4_decode 201 = .ok (.iload 4, 2) := by decide +kernel
theorem dX4_decode_203 : decode cX4_decode 203 = .ok (.iaload, 1) := by decide +kernel
theorem dX4_decode_204 : decode cX4_decode 204 = .ok (.aload_n 0, 1) := by decide +kernel
theorem dX4_decode_205 : decode cX4_decode 205 = .ok (.getfield 21, 3) := by decide +kernel
theorem dX4_decode_208 : decode cX4_decode 208 = .ok (.iload 4, 2) := by decide +kernel
theorem dX4_decode_210 : decode cX4_decode 210 = .ok (.iaload, 1) := by decide +kernel
theorem dX4_decode_211 : decode cX4_decode 211 = .ok (.invokevirtual 74, 3) := by decide +kernel
theorem dX4_decode_214 : decode cX4_decode 214 = .ok (.ifCond .ne 5, 3) := by decide +kernel
theorem dX4_decode_217 : decode cX4_decode 217 = .ok (.iconst 0, 1) := by decide +kernel
theorem dX4_decode_218 : decode cX4_decode 218 = .ok (.ireturn, 1) := by decide +kernel
theorem dX4_decode_219 : decode cX4_decode 219 = .ok (.iinc 4 1, 3) := by decide +kernel
theorem dX4_decode_222 : decode cX4_decode 222 = .ok (.goto (-119), 3) := by decide +kernel
theorem dX4_decode_225 : decode cX4_decode 225 = .ok (.iconst 1, 1) := by decide +kernel
theorem dX4_decode_226 : decode cX4_decode 226 = .ok (.ireturn, 1) := by decide +kernel
theorem dX4_takeLeaf_0 : decode cX4_takeLeaf 0 = .ok (.iconst 0, 1) := by decide +kernel
theorem dX4_takeLeaf_1 : decode cX4_takeLeaf 1 = .ok (.istore_n 1, 1) := by decide +kernel
theorem dX4_takeLeaf_2 : decode cX4_takeLeaf 2 = .ok (.iload_n 1, 1) := by decide +kernel
theorem dX4_takeLeaf_3 : decode cX4_takeLeaf 3 = .ok (.aload_n 0, 1) := by decide +kernel
theorem dX4_takeLeaf_4 : decode cX4_takeLeaf 4 = .ok (.getfield 34, 3) := by decide +kernel
theorem dX4_takeLeaf_7 : decode cX4_takeLeaf 7 = .ok (.if_icmp .ge 28, 3) := by decide +kernel
theorem dX4_takeLeaf_10 : decode cX4_takeLeaf 10 = .ok (.aload_n 0, 1) := by decide +kernel
theorem dX4_takeLeaf_11 : decode cX4_takeLeaf 11 = .ok (.getfield 18, 3) := by decide +kernel
theorem dX4_takeLeaf_14 : decode cX4_takeLeaf 14 = .ok (.iload_n 1, 1) := by decide +kernel
theorem dX4_takeLeaf_15 : decode cX4_takeLeaf 15 = .ok (.iaload, 1) := by decide +kernel
theorem dX4_takeLeaf_16 : decode cX4_takeLeaf 16 = .ok (.iconst 1, 1) := by decide +kernel
theorem dX4_takeLeaf_17 : decode cX4_takeLeaf 17 = .ok (.if_icmp .ne 12, 3) := by decide +kernel
theorem dX4_takeLeaf_20 : decode cX4_takeLeaf 20 = .ok (.aload_n 0, 1) := by decide +kernel
theorem dX4_takeLeaf_21 : decode cX4_takeLeaf 21 = .ok (.getfield 18, 3) := by decide +kernel
theorem dX4_takeLeaf_24 : decode cX4_takeLeaf 24 = .ok (.iload_n 1, 1) := by decide +kernel
theorem dX4_takeLeaf_25 : decode cX4_takeLeaf 25 = .ok (.iconst 0, 1) := by decide +kernel
theorem dX4_takeLeaf_26 : decode cX4_takeLeaf 26 = .ok (.iastore, 1) := by decide +kernel
theorem dX4_takeLeaf_27 : decode cX4_takeLeaf 27 = .ok (.iload_n 1, 1) := by decide +kernel
theorem dX4_takeLeaf_28 : decode cX4_takeLeaf 28 = .ok (.ireturn, 1) := by decide +kernel
theorem dX4_takeLeaf_29 : decode cX4_takeLeaf 29 = .ok (.iinc 1 1, 3) := by decide +kernel
theorem dX4_takeLeaf_32 : decode cX4_takeLeaf 32 = .ok (.goto (-30), 3) := by decide +kernel
theorem dX4_takeLeaf_35 : decode cX4_takeLeaf 35 = .ok (.iconst 0, 1) := by decide +kernel
theorem dX4_takeLeaf_36 : decode cX4_takeLeaf 36 = .ok (.ireturn, 1) := by decide +kernel
theorem dX4_blinksOf_0 : decode cX4_blinksOf 0 = .ok (.aload_n 1, 1) := by decide +kernel
theorem dX4_blinksOf_1 : decode cX4_blinksOf 1 = .ok (.aload_n 0, 1) := by decide +kernel
theorem dX4_blinksOf_2 : decode cX4_blinksOf 2 = .ok (.getfield 9, 3) := by decide +kernel
theorem dX4_blinksOf_5 : decode cX4_blinksOf 5 = .ok (.iload_n 2, 1) := by decide +kernel
theorem dX4_blinksOf_6 : decode cX4_blinksOf 6 = .ok (.iaload, 1) := by decide +kernel
theorem dX4_blinksOf_7 : decode cX4_blinksOf 7 = .ok (.aload_n 0, 1) := by decide +kernel
theorem dX4_blinksOf_8 : decode cX4_blinksOf 8 = .ok (.getfield 9, 3) := by decide +kernel
theorem dX4_blinksOf_11 : decode cX4_blinksOf 11 = .ok (.iload_n 3, 1) := by decide +kernel
theorem dX4_blinksOf_12 : decode cX4_blinksOf 12 = .ok (.iaload, 1) := by decide +kernel
theorem dX4_blinksOf_13 : decode cX4_blinksOf 13 = .ok (.invokevirtual 78, 3) := by decide +kernel
theorem dX4_blinksOf_16 : decode cX4_blinksOf 16 = .ok (.ireturn, 1) := by decide +kernel
theorem dX4_greatestWait_0 : decode cX4_greatestWait 0 = .ok (.iconst 0, 1) := by decide +kernel
theorem dX4_greatestWait_1 : decode cX4_greatestWait 1 = .ok (.istore_n 2, 1) := by decide +kernel
theorem dX4_greatestWait_2 : decode cX4_greatestWait 2 = .ok (.iconst 1, 1) := by decide +kernel
theorem dX4_greatestWait_3 : decode cX4_greatestWait 3 = .ok (.aload_n 0, 1) := by decide +kernel
theorem dX4_greatestWait_4 : decode cX4_greatestWait 4 = .ok (.getfield 24, 3) := by decide +kernel
theorem dX4_greatestWait_7 : decode cX4_greatestWait 7 = .ok (.aload_n 0, 1) := by decide +kernel
theorem dX4_greatestWait_8 : decode cX4_greatestWait 8 = .ok (.getfield 34, 3) := by decide +kernel
theorem dX4_greatestWait_11 : decode cX4_greatestWait 11 = .ok (.iconst 2, 1) := by decide +kernel
theorem dX4_greatestWait_12 : decode cX4_greatestWait 12 = .ok (.isub, 1) := by decide +kernel
theorem dX4_greatestWait_13 : decode cX4_greatestWait 13 = .ok (.iaload, 1) := by decide +kernel
theorem dX4_greatestWait_14 : decode cX4_greatestWait 14 = .ok (.ishl, 1) := by decide +kernel
theorem dX4_greatestWait_15 : decode cX4_greatestWait 15 = .ok (.istore_n 3, 1) := by decide +kernel
theorem dX4_greatestWait_16 : decode cX4_greatestWait 16 = .ok (.aload_n 0, 1) := by decide +kernel
theorem dX4_greatestWait_17 : decode cX4_greatestWait 17 = .ok (.getfield 34, 3) := by decide +kernel
theorem dX4_greatestWait_20 : decode cX4_greatestWait 20 = .ok (.iconst 2, 1) := by decide +kernel
theorem dX4_greatestWait_21 : decode cX4_greatestWait 21 = .ok (.isub, 1) := by decide +kernel
theorem dX4_greatestWait_22 : decode cX4_greatestWait 22 = .ok (.istore 4, 2) := by decide +kernel
theorem dX4_greatestWait_24 : decode cX4_greatestWait 24 = .ok (.iload 4, 2) := by decide +kernel
theorem dX4_greatestWait_26 : decode cX4_greatestWait 26 = .ok (.ifCond .lt 46, 3) := by decide +kernel
theorem dX4_greatestWait_29 : decode cX4_greatestWait 29 = .ok (.iload_n 2, 1) := by decide +kernel
theorem dX4_greatestWait_30 : decode cX4_greatestWait 30 = .ok (.aload_n 0, 1) := by decide +kernel
theorem dX4_greatestWait_31 : decode cX4_greatestWait 31 = .ok (.aload_n 1, 1) := by decide +kernel
theorem dX4_greatestWait_32 : decode cX4_greatestWait 32 = .ok (.aload_n 0, 1) := by decide +kernel
theorem dX4_greatestWait_33 : decode cX4_greatestWait 33 = .ok (.getfield 21, 3) := by decide +kernel
theorem dX4_greatestWait_36 : decode cX4_greatestWait 36 = .ok (.iload 4, 2) := by decide +kernel
theorem dX4_greatestWait_38 : decode cX4_greatestWait 38 = .ok (.iaload, 1) := by decide +kernel
theorem dX4_greatestWait_39 : decode cX4_greatestWait 39 = .ok (.aload_n 0, 1) := by decide +kernel
theorem dX4_greatestWait_40 : decode cX4_greatestWait 40 = .ok (.getfield 24, 3) := by decide +kernel
theorem dX4_greatestWait_43 : decode cX4_greatestWait 43 = .ok (.iload 4, 2) := by decide +kernel
theorem dX4_greatestWait_45 : decode cX4_greatestWait 45 = .ok (.iaload, 1) := by decide +kernel
theorem dX4_greatestWait_46 : decode cX4_greatestWait 46 = .ok (.iload_n 3, 1) := by decide +kernel
theorem dX4_greatestWait_47 : decode cX4_greatestWait 47 = .ok (.invokevirtual 81, 3) := by decide +kernel
theorem dX4_greatestWait_50 : decode cX4_greatestWait 50 = .ok (.invokestatic 85, 3) := by decide +kernel
theorem dX4_greatestWait_53 : decode cX4_greatestWait 53 = .ok (.istore_n 2, 1) := by decide +kernel
theorem dX4_greatestWait_54 : decode cX4_greatestWait 54 = .ok (.iload_n 3, 1) := by decide +kernel
theorem dX4_greatestWait_55 : decode cX4_greatestWait 55 = .ok (.iconst 1, 1) := by decide +kernel
theorem dX4_greatestWait_56 : decode cX4_greatestWait 56 = .ok (.aload_n 0, 1) := by decide +kernel
theorem dX4_greatestWait_57 : decode cX4_greatestWait 57 = .ok (.getfield 21, 3) := by decide +kernel
theorem dX4_greatestWait_60 : decode cX4_greatestWait 60 = .ok (.iload 4, 2) := by decide +kernel
theorem dX4_greatestWait_62 : decode cX4_greatestWait 62 = .ok (.iaload, 1) := by decide +kernel
theorem dX4_greatestWait_63 : decode cX4_greatestWait 63 = .ok (.ishl, 1) := by decide +kernel
theorem dX4_greatestWait_64 : decode cX4_greatestWait 64 = .ok (.ior, 1) := by decide +kernel
theorem dX4_greatestWait_65 : decode cX4_greatestWait 65 = .ok (.istore_n 3, 1) := by decide +kernel
theorem dX4_greatestWait_66 : decode cX4_greatestWait 66 = .ok (.iinc 4 (-1), 3) := by decide +kernel
theorem dX4_greatestWait_69 : decode cX4_greatestWait 69 = .ok (.goto (-45), 3) := by decide +kernel
theorem dX4_greatestWait_72 : decode cX4_greatestWait 72 = .ok (.iload_n 2, 1) := by decide +kernel
theorem dX4_greatestWait_73 : decode cX4_greatestWait 73 = .ok (.ireturn, 1) := by decide +kernel
theorem dX4_join_0 : decode cX4_join 0 = .ok (.aload_n 0, 1) := by decide +kernel
theorem dX4_join_1 : decode cX4_join 1 = .ok (.aload_n 1, 1) := by decide +kernel
theorem dX4_join_2 : decode cX4_join 2 = .ok (.iload_n 2, 1) := by decide +kernel
theorem dX4_join_3 : decode cX4_join 3 = .ok (.iload_n 3, 1) := by decide +kernel
theorem dX4_join_4 : decode cX4_join 4 = .ok (.invokevirtual 74, 3) := by decide +kernel
theorem dX4_join_7 : decode cX4_join 7 = .ok (.istore 5, 2) := by decide +kernel
theorem dX4_join_9 : decode cX4_join 9 = .ok (.aload_n 0, 1) := by decide +kernel
theorem dX4_join_10 : decode cX4_join 10 = .ok (.aload_n 1, 1) := by decide +kernel
theorem dX4_join_11 : decode cX4_join 11 = .ok (.iload_n 3, 1) := by decide +kernel
theorem dX4_join_12 : decode cX4_join 12 = .ok (.iload_n 2, 1) := by decide +kernel
theorem dX4_join_13 : decode cX4_join 13 = .ok (.invokevirtual 74, 3) := by decide +kernel
theorem dX4_join_16 : decode cX4_join 16 = .ok (.istore 6, 2) := by decide +kernel
theorem dX4_join_18 : decode cX4_join 18 = .ok (.iconst 0, 1) := by decide +kernel
theorem dX4_join_19 : decode cX4_join 19 = .ok (.istore 7, 2) := by decide +kernel
theorem dX4_join_21 : decode cX4_join 21 = .ok (.iconst 0, 1) := by decide +kernel
theorem dX4_join_22 : decode cX4_join 22 = .ok (.istore 8, 2) := by decide +kernel
theorem dX4_join_24 : decode cX4_join 24 = .ok (.iload 8, 2) := by decide +kernel
theorem dX4_join_26 : decode cX4_join 26 = .ok (.aload_n 0, 1) := by decide +kernel
theorem dX4_join_27 : decode cX4_join 27 = .ok (.getfield 34, 3) := by decide +kernel
theorem dX4_join_30 : decode cX4_join 30 = .ok (.if_icmp .ge 142, 3) := by decide +kernel
theorem dX4_join_33 : decode cX4_join 33 = .ok (.iload 4, 2) := by decide +kernel
theorem dX4_join_35 : decode cX4_join 35 = .ok (.iload 8, 2) := by decide +kernel
theorem dX4_join_37 : decode cX4_join 37 = .ok (.ishr, 1) := by decide +kernel
theorem dX4_join_38 : decode cX4_join 38 = .ok (.iconst 1, 1) := by decide +kernel
theorem dX4_join_39 : decode cX4_join 39 = .ok (.iand, 1) := by decide +kernel
theorem dX4_join_40 : decode cX4_join 40 = .ok (.ifCond .eq 126, 3) := by decide +kernel
theorem dX4_join_43 : decode cX4_join 43 = .ok (.iload 8, 2) := by decide +kernel
theorem dX4_join_45 : decode cX4_join 45 = .ok (.iload_n 3, 1) := by decide +kernel
theorem dX4_join_46 : decode cX4_join 46 = .ok (.if_icmp .ne 7, 3) := by decide +kernel
theorem dX4_join_49 : decode cX4_join 49 = .ok (.iconst 1, 1) := by decide +kernel
theorem dX4_join_50 : decode cX4_join 50 = .ok (.goto 4, 3) := by decide +kernel
theorem dX4_join_53 : decode cX4_join 53 = .ok (.iconst 0, 1) := by decide +kernel
theorem dX4_join_54 : decode cX4_join 54 = .ok (.istore 9, 2) := by decide +kernel
theorem dX4_join_56 : decode cX4_join 56 = .ok (.aload_n 0, 1) := by decide +kernel
theorem dX4_join_57 : decode cX4_join 57 = .ok (.getfield 27, 3) := by decide +kernel
theorem dX4_join_60 : decode cX4_join 60 = .ok (.iload_n 2, 1) := by decide +kernel
theorem dX4_join_61 : decode cX4_join 61 = .ok (.bipush 6, 2) := by decide +kernel
theorem dX4_join_63 : decode cX4_join 63 = .ok (.imul, 1) := by decide +kernel
theorem dX4_join_64 : decode cX4_join 64 = .ok (.iload 8, 2) := by decide +kernel
theorem dX4_join_66 : decode cX4_join 66 = .ok (.iadd, 1) := by decide +kernel
theorem dX4_join_67 : decode cX4_join 67 = .ok (.iload 5, 2) := by decide +kernel
theorem dX4_join_69 : decode cX4_join 69 = .ok (.iload 9, 2) := by decide +kernel
theorem dX4_join_71 : decode cX4_join 71 = .ok (.ifCond .eq 7, 3) := by decide +kernel
theorem dX4_join_74 : decode cX4_join 74 = .ok (.iconst 0, 1) := by decide +kernel
theorem dX4_join_75 : decode cX4_join 75 = .ok (.goto 15, 3) := by decide +kernel
theorem dX4_join_78 : decode cX4_join 78 = .ok (.aload_n 0, 1) := by decide +kernel
theorem dX4_join_79 : decode cX4_join 79 = .ok (.getfield 27, 3) := by decide +kernel
theorem dX4_join_82 : decode cX4_join 82 = .ok (.iload_n 3, 1) := by decide +kernel
theorem dX4_join_83 : decode cX4_join 83 = .ok (.bipush 6, 2) := by decide +kernel
theorem dX4_join_85 : decode cX4_join 85 = .ok (.imul, 1) := by decide +kernel
theorem dX4_join_86 : decode cX4_join 86 = .ok (.iload 8, 2) := by decide +kernel
theorem dX4_join_88 : decode cX4_join 88 = .ok (.iadd, 1) := by decide +kernel
theorem dX4_join_89 : decode cX4_join 89 = .ok (.iaload, 1) := by decide +kernel
theorem dX4_join_90 : decode cX4_join 90 = .ok (.iadd, 1) := by decide +kernel
theorem dX4_join_91 : decode cX4_join 91 = .ok (.iastore, 1) := by decide +kernel
theorem dX4_join_92 : decode cX4_join 92 = .ok (.aload_n 0, 1) := by decide +kernel
theorem dX4_join_93 : decode cX4_join 93 = .ok (.getfield 27, 3) := by decide +kernel
theorem dX4_join_96 : decode cX4_join 96 = .ok (.iload 8, 2) := by decide +kernel
theorem dX4_join_98 : decode cX4_join 98 = .ok (.bipush 6, 2) := by decide +kernel
theorem dX4_join_100 : decode cX4_join 100 = .ok (.imul, 1) := by decide +kernel
theorem dX4_join_101 : decode cX4_join 101 = .ok (.iload_n 2, 1) := by decide +kernel
theorem dX4_join_102 : decode cX4_join 102 = .ok (.iadd, 1) := by decide +kernel
theorem dX4_join_103 : decode cX4_join 103 = .ok (.iload 6, 2) := by decide +kernel
theorem dX4_join_105 : decode cX4_join 105 = .ok (.iload 9, 2) := by decide +kernel
theorem dX4_join_107 : decode cX4_join 107 = .ok (.ifCond .eq 7, 3) := by decide +kernel
theorem dX4_join_110 : decode cX4_join 110 = .ok (.iconst 0, 1) := by decide +kernel
theorem dX4_join_111 : decode cX4_join 111 = .ok (.goto 15, 3) := by decide +kernel
theorem dX4_join_114 : decode cX4_join 114 = .ok (.aload_n 0, 1) := by decide +kernel
theorem dX4_join_115 : decode cX4_join 115 = .ok (.getfield 27, 3) := by decide +kernel
theorem dX4_join_118 : decode cX4_join 118 = .ok (.iload 8, 2) := by decide +kernel
theorem dX4_join_120 : decode cX4_join 120 = .ok (.bipush 6, 2) := by decide +kernel
theorem dX4_join_122 : decode cX4_join 122 = .ok (.imul, 1) := by decide +kernel
theorem dX4_join_123 : decode cX4_join 123 = .ok (.iload_n 3, 1) := by decide +kernel
theorem dX4_join_124 : decode cX4_join 124 = .ok (.iadd, 1) := by decide +kernel
theorem dX4_join_125 : decode cX4_join 125 = .ok (.iaload, 1) := by decide +kernel
theorem dX4_join_126 : decode cX4_join 126 = .ok (.iadd, 1) := by decide +kernel
theorem dX4_join_127 : decode cX4_join 127 = .ok (.iastore, 1) := by decide +kernel
theorem dX4_join_128 : decode cX4_join 128 = .ok (.iload 7, 2) := by decide +kernel
theorem dX4_join_130 : decode cX4_join 130 = .ok (.aload_n 0, 1) := by decide +kernel
theorem dX4_join_131 : decode cX4_join 131 = .ok (.getfield 27, 3) := by decide +kernel
theorem dX4_join_134 : decode cX4_join 134 = .ok (.iload_n 2, 1) := by decide +kernel
theorem dX4_join_135 : decode cX4_join 135 = .ok (.bipush 6, 2) := by decide +kernel
theorem dX4_join_137 : decode cX4_join 137 = .ok (.imul, 1) := by decide +kernel
theorem dX4_join_138 : decode cX4_join 138 = .ok (.iload 8, 2) := by decide +kernel
theorem dX4_join_140 : decode cX4_join 140 = .ok (.iadd, 1) := by decide +kernel
theorem dX4_join_141 : decode cX4_join 141 = .ok (.iaload, 1) := by decide +kernel
theorem dX4_join_142 : decode cX4_join 142 = .ok (.invokestatic 85, 3) := by decide +kernel
theorem dX4_join_145 : decode cX4_join 145 = .ok (.istore 7, 2) := by decide +kernel
theorem dX4_join_147 : decode cX4_join 147 = .ok (.iload 7, 2) := by decide +kernel
theorem dX4_join_149 : decode cX4_join 149 = .ok (.aload_n 0, 1) := by decide +kernel
theorem dX4_join_150 : decode cX4_join 150 = .ok (.getfield 27, 3) := by decide +kernel
theorem dX4_join_153 : decode cX4_join 153 = .ok (.iload 8, 2) := by decide +kernel
theorem dX4_join_155 : decode cX4_join 155 = .ok (.bipush 6, 2) := by decide +kernel
theorem dX4_join_157 : decode cX4_join 157 = .ok (.imul, 1) := by decide +kernel
theorem dX4_join_158 : decode cX4_join 158 = .ok (.iload_n 2, 1) := by decide +kernel
theorem dX4_join_159 : decode cX4_join 159 = .ok (.iadd, 1) := by decide +kernel
theorem dX4_join_160 : decode cX4_join 160 = .ok (.iaload, 1) := by decide +kernel
theorem dX4_join_161 : decode cX4_join 161 = .ok (.invokestatic 85, 3) := by decide +kernel
theorem dX4_join_164 : decode cX4_join 164 = .ok (.istore 7, 2) := by decide +kernel
theorem dX4_join_166 : decode cX4_join 166 = .ok (.iinc 8 1, 3) := by decide +kernel
theorem dX4_join_169 : decode cX4_join 169 = .ok (.goto (-145), 3) := by decide +kernel
theorem dX4_join_172 : decode cX4_join 172 = .ok (.iload 7, 2) := by decide +kernel
theorem dX4_join_174 : decode cX4_join 174 = .ok (.ireturn, 1) := by decide +kernel
theorem dX5_init_0 : decode cX5_init 0 = .ok (.aload_n 0, 1) := by decide +kernel
theorem dX5_init_1 : decode cX5_init 1 = .ok (.invokespecial 3, 3) := by decide +kernel
theorem dX5_init_4 : decode cX5_init 4 = .ok (.aload_n 0, 1) := by decide +kernel
theorem dX5_init_5 : decode cX5_init 5 = .ok (.bipush 64, 2) := by decide +kernel
theorem dX5_init_7 : decode cX5_init 7 = .ok (.newarray .int, 2) := by decide +kernel
theorem dX5_init_9 : decode cX5_init 9 = .ok (.putfield 9, 3) := by decide +kernel
theorem dX5_init_12 : decode cX5_init 12 = .ok (.return_, 1) := by decide +kernel
theorem dX5_take_0 : decode cX5_take 0 = .ok (.aload_n 0, 1) := by decide +kernel
theorem dX5_take_1 : decode cX5_take 1 = .ok (.aload_n 1, 1) := by decide +kernel
theorem dX5_take_2 : decode cX5_take 2 = .ok (.getfield 15, 3) := by decide +kernel
theorem dX5_take_5 : decode cX5_take 5 = .ok (.putfield 15, 3) := by decide +kernel
theorem dX5_take_8 : decode cX5_take 8 = .ok (.aload_n 1, 1) := by decide +kernel
theorem dX5_take_9 : decode cX5_take 9 = .ok (.getfield 9, 3) := by decide +kernel
theorem dX5_take_12 : decode cX5_take 12 = .ok (.iconst 0, 1) := by decide +kernel
theorem dX5_take_13 : decode cX5_take 13 = .ok (.aload_n 0, 1) := by decide +kernel
theorem dX5_take_14 : decode cX5_take 14 = .ok (.getfield 9, 3) := by decide +kernel
theorem dX5_take_17 : decode cX5_take 17 = .ok (.iconst 0, 1) := by decide +kernel
theorem dX5_take_18 : decode cX5_take 18 = .ok (.aload_n 0, 1) := by decide +kernel
theorem dX5_take_19 : decode cX5_take 19 = .ok (.getfield 9, 3) := by decide +kernel
theorem dX5_take_22 : decode cX5_take 22 = .ok (.arraylength, 1) := by decide +kernel
theorem dX5_take_23 : decode cX5_take 23 = .ok (.invokestatic 19, 3) := by decide +kernel
theorem dX5_take_26 : decode cX5_take 26 = .ok (.return_, 1) := by decide +kernel
theorem dX5_append_0 : decode cX5_append 0 = .ok (.iconst 0, 1) := by decide +kernel
theorem dX5_append_1 : decode cX5_append 1 = .ok (.istore 4, 2) := by decide +kernel
theorem dX5_append_3 : decode cX5_append 3 = .ok (.iload 4, 2) := by decide +kernel
theorem dX5_append_5 : decode cX5_append 5 = .ok (.iload_n 2, 1) := by decide +kernel
theorem dX5_append_6 : decode cX5_append 6 = .ok (.if_icmp .ge 48, 3) := by decide +kernel
theorem dX5_append_9 : decode cX5_append 9 = .ok (.aload_n 0, 1) := by decide +kernel
theorem dX5_append_10 : decode cX5_append 10 = .ok (.getfield 9, 3) := by decide +kernel
theorem dX5_append_13 : decode cX5_append 13 = .ok (.aload_n 0, 1) := by decide +kernel
theorem dX5_append_14 : decode cX5_append 14 = .ok (.getfield 15, 3) := by decide +kernel
theorem dX5_append_17 : decode cX5_append 17 = .ok (.iload_n 1, 1) := by decide +kernel
theorem dX5_append_18 : decode cX5_append 18 = .ok (.iload_n 3, 1) := by decide +kernel
theorem dX5_append_19 : decode cX5_append 19 = .ok (.ifCond .eq 16, 3) := by decide +kernel
theorem dX5_append_22 : decode cX5_append 22 = .ok (.iload 4, 2) := by decide +kernel
theorem dX5_append_24 : decode cX5_append 24 = .ok (.iload_n 2, 1) := by decide +kernel
theorem dX5_append_25 : decode cX5_append 25 = .ok (.iconst 1, 1) := by decide +kernel
theorem dX5_append_26 : decode cX5_append 26 = .ok (.isub, 1) := by decide +kernel
theorem dX5_append_27 : decode cX5_append 27 = .ok (.if_icmp .ne 8, 3) := by decide +kernel
theorem dX5_append_30 : decode cX5_append 30 = .ok (.bipush 10, 2) := by decide +kernel
theorem dX5_append_32 : decode cX5_append 32 = .ok (.goto 4, 3) := by decide +kernel
theorem dX5_append_35 : decode cX5_append 35 = .ok (.iconst 0, 1) := by decide +kernel
theorem dX5_append_36 : decode cX5_append 36 = .ok (.iadd, 1) := by decide +kernel
theorem dX5_append_37 : decode cX5_append 37 = .ok (.iastore, 1) := by decide +kernel
theorem dX5_append_38 : decode cX5_append 38 = .ok (.aload_n 0, 1) := by decide +kernel
theorem dX5_append_39 : decode cX5_append 39 = .ok (.dup, 1) := by decide +kernel
theorem dX5_append_40 : decode cX5_append 40 = .ok (.getfield 15, 3) := by decide +kernel
theorem dX5_append_43 : decode cX5_append 43 = .ok (.iconst 1, 1) := by decide +kernel
theorem dX5_append_44 : decode cX5_append 44 = .ok (.iadd, 1) := by decide +kernel
theorem dX5_append_45 : decode cX5_append 45 = .ok (.putfield 15, 3) := by decide +kernel
theorem dX5_append_48 : decode cX5_append 48 = .ok (.iinc 4 1, 3) := by decide +kernel
theorem dX5_append_51 : decode cX5_append 51 = .ok (.goto (-48), 3) := by decide +kernel
theorem dX5_append_54 : decode cX5_append 54 = .ok (.return_, 1) := by decide +kernel
theorem dX5_breaths_0 : decode cX5_breaths 0 = .ok (.iconst 0, 1) := by decide +kernel
theorem dX5_breaths_1 : decode cX5_breaths 1 = .ok (.istore_n 1, 1) := by decide +kernel
theorem dX5_breaths_2 : decode cX5_breaths 2 = .ok (.iconst 0, 1) := by decide +kernel
theorem dX5_breaths_3 : decode cX5_breaths 3 = .ok (.istore_n 2, 1) := by decide +kernel
theorem dX5_breaths_4 : decode cX5_breaths 4 = .ok (.iload_n 2, 1) := by decide +kernel
theorem dX5_breaths_5 : decode cX5_breaths 5 = .ok (.aload_n 0, 1) := by decide +kernel
theorem dX5_breaths_6 : decode cX5_breaths 6 = .ok (.getfield 15, 3) := by decide +kernel
theorem dX5_breaths_9 : decode cX5_breaths 9 = .ok (.if_icmp .ge 28, 3) := by decide +kernel
theorem dX5_breaths_12 : decode cX5_breaths 12 = .ok (.iload_n 1, 1) := by decide +kernel
theorem dX5_breaths_13 : decode cX5_breaths 13 = .ok (.aload_n 0, 1) := by decide +kernel
theorem dX5_breaths_14 : decode cX5_breaths 14 = .ok (.getfield 9, 3) := by decide +kernel
theorem dX5_breaths_17 : decode cX5_breaths 17 = .ok (.iload_n 2, 1) := by decide +kernel
theorem dX5_breaths_18 : decode cX5_breaths 18 = .ok (.iaload, 1) := by decide +kernel
theorem dX5_breaths_19 : decode cX5_breaths 19 = .ok (.bipush 10, 2) := by decide +kernel
theorem dX5_breaths_21 : decode cX5_breaths 21 = .ok (.if_icmp .lt 7, 3) := by decide +kernel
theorem dX5_breaths_24 : decode cX5_breaths 24 = .ok (.iconst 1, 1) := by decide +kernel
theorem dX5_breaths_25 : decode cX5_breaths 25 = .ok (.goto 4, 3) := by decide +kernel
theorem dX5_breaths_28 : decode cX5_breaths 28 = .ok (.iconst 0, 1) := by decide +kernel
theorem dX5_breaths_29 : decode cX5_breaths 29 = .ok (.iadd, 1) := by decide +kernel
theorem dX5_breaths_30 : decode cX5_breaths 30 = .ok (.istore_n 1, 1) := by decide +kernel
theorem dX5_breaths_31 : decode cX5_breaths 31 = .ok (.iinc 2 1, 3) := by decide +kernel
theorem dX5_breaths_34 : decode cX5_breaths 34 = .ok (.goto (-30), 3) := by decide +kernel
theorem dX5_breaths_37 : decode cX5_breaths 37 = .ok (.iload_n 1, 1) := by decide +kernel
theorem dX5_breaths_38 : decode cX5_breaths 38 = .ok (.ireturn, 1) := by decide +kernel
theorem dX5_behindLastBreath_0 : decode cX5_behindLastBreath 0 = .ok (.iload_n 1, 1) := by decide +kernel
theorem dX5_behindLastBreath_1 : decode cX5_behindLastBreath 1 = .ok (.aload_n 0, 1) := by decide +kernel
theorem dX5_behindLastBreath_2 : decode cX5_behindLastBreath 2 = .ok (.getfield 15, 3) := by decide +kernel
theorem dX5_behindLastBreath_5 : decode cX5_behindLastBreath 5 = .ok (.invokestatic 25, 3) := by decide +kernel
theorem dX5_behindLastBreath_8 : decode cX5_behindLastBreath 8 = .ok (.istore_n 2, 1) := by decide +kernel
theorem dX5_behindLastBreath_9 : decode cX5_behindLastBreath 9 = .ok (.iload_n 2, 1) := by decide +kernel
theorem dX5_behindLastBreath_10 : decode cX5_behindLastBreath 10 = .ok (.ifCond .le 24, 3) := by decide +kernel
theorem dX5_behindLastBreath_13 : decode cX5_behindLastBreath 13 = .ok (.aload_n 0, 1) := by decide +kernel
theorem dX5_behindLastBreath_14 : decode cX5_behindLastBreath 14 = .ok (.getfield 9, 3) := by decide +kernel
theorem dX5_behindLastBreath_17 : decode cX5_behindLastBreath 17 = .ok (.iload_n 2, 1) := by decide +kernel
theorem dX5_behindLastBreath_18 : decode cX5_behindLastBreath 18 = .ok (.iconst 1, 1) := by decide +kernel
theorem dX5_behindLastBreath_19 : decode cX5_behindLastBreath 19 = .ok (.isub, 1) := by decide +kernel
theorem dX5_behindLastBreath_20 : decode cX5_behindLastBreath 20 = .ok (.iaload, 1) := by decide +kernel
theorem dX5_behindLastBreath_21 : decode cX5_behindLastBreath 21 = .ok (.bipush 10, 2) := by decide +kernel
theorem dX5_behindLastBreath_23 : decode cX5_behindLastBreath 23 = .ok (.if_icmp .lt 5, 3) := by decide +kernel
theorem dX5_behindLastBreath_26 : decode cX5_behindLastBreath 26 = .ok (.iload_n 2, 1) := by decide +kernel
theorem dX5_behindLastBreath_27 : decode cX5_behindLastBreath 27 = .ok (.ireturn, 1) := by decide +kernel
theorem dX5_behindLastBreath_28 : decode cX5_behindLastBreath 28 = .ok (.iinc 2 (-1), 3) := by decide +kernel
theorem dX5_behindLastBreath_31 : decode cX5_behindLastBreath 31 = .ok (.goto (-22), 3) := by decide +kernel
theorem dX5_behindLastBreath_34 : decode cX5_behindLastBreath 34 = .ok (.iconst 0, 1) := by decide +kernel
theorem dX5_behindLastBreath_35 : decode cX5_behindLastBreath 35 = .ok (.ireturn, 1) := by decide +kernel
theorem dX5_clashesAt_0 : decode cX5_clashesAt 0 = .ok (.iconst 0, 1) := by decide +kernel
theorem dX5_clashesAt_1 : decode cX5_clashesAt 1 = .ok (.istore_n 3, 1) := by decide +kernel
theorem dX5_clashesAt_2 : decode cX5_clashesAt 2 = .ok (.iload_n 1, 1) := by decide +kernel
theorem dX5_clashesAt_3 : decode cX5_clashesAt 3 = .ok (.istore 4, 2) := by decide +kernel
theorem dX5_clashesAt_5 : decode cX5_clashesAt 5 = .ok (.iload 4, 2) := by decide +kernel
theorem dX5_clashesAt_7 : decode cX5_clashesAt 7 = .ok (.aload_n 0, 1) := by decide +kernel
theorem dX5_clashesAt_8 : decode cX5_clashesAt 8 = .ok (.getfield 15, 3) := by decide +kernel
theorem dX5_clashesAt_11 : decode cX5_clashesAt 11 = .ok (.if_icmp .ge 63, 3) := by decide +kernel
theorem dX5_clashesAt_14 : decode cX5_clashesAt 14 = .ok (.aload_n 0, 1) := by decide +kernel
theorem dX5_clashesAt_15 : decode cX5_clashesAt 15 = .ok (.getfield 9, 3) := by decide +kernel
theorem dX5_clashesAt_18 : decode cX5_clashesAt 18 = .ok (.iload 4, 2) := by decide +kernel
theorem dX5_clashesAt_20 : decode cX5_clashesAt 20 = .ok (.iaload, 1) := by decide +kernel
theorem dX5_clashesAt_21 : decode cX5_clashesAt 21 = .ok (.bipush 10, 2) := by decide +kernel
theorem dX5_clashesAt_23 : decode cX5_clashesAt 23 = .ok (.irem, 1) := by decide +kernel
theorem dX5_clashesAt_24 : decode cX5_clashesAt 24 = .ok (.istore 5, 2) := by decide +kernel
theorem dX5_clashesAt_26 : decode cX5_clashesAt 26 = .ok (.aload_n 0, 1) := by decide +kernel
theorem dX5_clashesAt_27 : decode cX5_clashesAt 27 = .ok (.getfield 9, 3) := by decide +kernel
theorem dX5_clashesAt_30 : decode cX5_clashesAt 30 = .ok (.iload 4, 2) := by decide +kernel
theorem dX5_clashesAt_32 : decode cX5_clashesAt 32 = .ok (.iload_n 1, 1) := by decide +kernel
theorem dX5_clashesAt_33 : decode cX5_clashesAt 33 = .ok (.isub, 1) := by decide +kernel
theorem dX5_clashesAt_34 : decode cX5_clashesAt 34 = .ok (.iaload, 1) := by decide +kernel
theorem dX5_clashesAt_35 : decode cX5_clashesAt 35 = .ok (.bipush 10, 2) := by decide +kernel
theorem dX5_clashesAt_37 : decode cX5_clashesAt 37 = .ok (.irem, 1) := by decide +kernel
theorem dX5_clashesAt_38 : decode cX5_clashesAt 38 = .ok (.istore 6, 2) := by decide +kernel
theorem dX5_clashesAt_40 : decode cX5_clashesAt 40 = .ok (.iload 5, 2) := by decide +kernel
theorem dX5_clashesAt_42 : decode cX5_clashesAt 42 = .ok (.ifCond .eq 26, 3) := by decide +kernel
theorem dX5_clashesAt_45 : decode cX5_clashesAt 45 = .ok (.iload 6, 2) := by decide +kernel
theorem dX5_clashesAt_47 : decode cX5_clashesAt 47 = .ok (.ifCond .eq 21, 3) := by decide +kernel
theorem dX5_clashesAt_50 : decode cX5_clashesAt 50 = .ok (.iload_n 2, 1) := by decide +kernel
theorem dX5_clashesAt_51 : decode cX5_clashesAt 51 = .ok (.iload 5, 2) := by decide +kernel
theorem dX5_clashesAt_53 : decode cX5_clashesAt 53 = .ok (.iload 6, 2) := by decide +kernel
theorem dX5_clashesAt_55 : decode cX5_clashesAt 55 = .ok (.isub, 1) := by decide +kernel
theorem dX5_clashesAt_56 : decode cX5_clashesAt 56 = .ok (.invokestatic 31, 3) := by decide +kernel
theorem dX5_clashesAt_59 : decode cX5_clashesAt 59 = .ok (.ishr, 1) := by decide +kernel
theorem dX5_clashesAt_60 : decode cX5_clashesAt 60 = .ok (.iconst 1, 1) := by decide +kernel
theorem dX5_clashesAt_61 : decode cX5_clashesAt 61 = .ok (.iand, 1) := by decide +kernel
theorem dX5_clashesAt_62 : decode cX5_clashesAt 62 = .ok (.ifCond .ne 6, 3) := by decide +kernel
theorem dX5_clashesAt_65 : decode cX5_clashesAt 65 = .ok (.iinc 3 1, 3) := by decide +kernel
theorem dX5_clashesAt_68 : decode cX5_clashesAt 68 = .ok (.iinc 4 1, 3) := by decide +kernel
theorem dX5_clashesAt_71 : decode cX5_clashesAt 71 = .ok (.goto (-66), 3) := by decide +kernel
theorem dX5_clashesAt_74 : decode cX5_clashesAt 74 = .ok (.iload_n 3, 1) := by decide +kernel
theorem dX5_clashesAt_75 : decode cX5_clashesAt 75 = .ok (.ireturn, 1) := by decide +kernel
theorem dX6_init_0 : decode cX6_init 0 = .ok (.aload_n 0, 1) := by decide +kernel
theorem dX6_init_1 : decode cX6_init 1 = .ok (.invokespecial 3, 3) := by decide +kernel
theorem dX6_init_4 : decode cX6_init 4 = .ok (.aload_n 0, 1) := by decide +kernel
theorem dX6_init_5 : decode cX6_init 5 = .ok (.sipush 500, 3) := by decide +kernel
theorem dX6_init_8 : decode cX6_init 8 = .ok (.putfield 9, 3) := by decide +kernel
theorem dX6_init_11 : decode cX6_init 11 = .ok (.aload_n 0, 1) := by decide +kernel
theorem dX6_init_12 : decode cX6_init 12 = .ok (.bipush 7, 2) := by decide +kernel
theorem dX6_init_14 : decode cX6_init 14 = .ok (.putfield 15, 3) := by decide +kernel
theorem dX6_init_17 : decode cX6_init 17 = .ok (.aload_n 0, 1) := by decide +kernel
theorem dX6_init_18 : decode cX6_init 18 = .ok (.bipush 48, 2) := by decide +kernel
theorem dX6_init_20 : decode cX6_init 20 = .ok (.newarray .int, 2) := by decide +kernel
theorem dX6_init_22 : decode cX6_init 22 = .ok (.putfield 18, 3) := by decide +kernel
theorem dX6_init_25 : decode cX6_init 25 = .ok (.aload_n 0, 1) := by decide +kernel
theorem dX6_init_26 : decode cX6_init 26 = .ok (.bipush 64, 2) := by decide +kernel
theorem dX6_init_28 : decode cX6_init 28 = .ok (.newarray .int, 2) := by decide +kernel
theorem dX6_init_30 : decode cX6_init 30 = .ok (.putfield 22, 3) := by decide +kernel
theorem dX6_init_33 : decode cX6_init 33 = .ok (.aload_n 0, 1) := by decide +kernel
theorem dX6_init_34 : decode cX6_init 34 = .ok (.bipush 56, 2) := by decide +kernel
theorem dX6_init_36 : decode cX6_init 36 = .ok (.newarray .int, 2) := by decide +kernel
theorem dX6_init_38 : decode cX6_init 38 = .ok (.putfield 25, 3) := by decide +kernel
theorem dX6_init_41 : decode cX6_init 41 = .ok (.return_, 1) := by decide +kernel
theorem dX6_take_0 : decode cX6_take 0 = .ok (.aload_n 0, 1) := by decide +kernel
theorem dX6_take_1 : decode cX6_take 1 = .ok (.aload_n 1, 1) := by decide +kernel
theorem dX6_take_2 : decode cX6_take 2 = .ok (.getfield 28, 3) := by decide +kernel
theorem dX6_take_5 : decode cX6_take 5 = .ok (.putfield 28, 3) := by decide +kernel
theorem dX6_take_8 : decode cX6_take 8 = .ok (.aload_n 0, 1) := by decide +kernel
theorem dX6_take_9 : decode cX6_take 9 = .ok (.aload_n 1, 1) := by decide +kernel
theorem dX6_take_10 : decode cX6_take 10 = .ok (.getfield 9, 3) := by decide +kernel
theorem dX6_take_13 : decode cX6_take 13 = .ok (.putfield 9, 3) := by decide +kernel
theorem dX6_take_16 : decode cX6_take 16 = .ok (.aload_n 0, 1) := by decide +kernel
theorem dX6_take_17 : decode cX6_take 17 = .ok (.aload_n 1, 1) := by decide +kernel
theorem dX6_take_18 : decode cX6_take 18 = .ok (.getfield 15, 3) := by decide +kernel
theorem dX6_take_21 : decode cX6_take 21 = .ok (.putfield 15, 3) := by decide +kernel
theorem dX6_take_24 : decode cX6_take 24 = .ok (.aload_n 1, 1) := by decide +kernel
theorem dX6_take_25 : decode cX6_take 25 = .ok (.getfield 18, 3) := by decide +kernel
theorem dX6_take_28 : decode cX6_take 28 = .ok (.iconst 0, 1) := by decide +kernel
theorem dX6_take_29 : decode cX6_take 29 = .ok (.aload_n 0, 1) := by decide +kernel
theorem dX6_take_30 : decode cX6_take 30 = .ok (.getfield 18, 3) := by decide +kernel
theorem dX6_take_33 : decode cX6_take 33 = .ok (.iconst 0, 1) := by decide +kernel
theorem dX6_take_34 : decode cX6_take 34 = .ok (.aload_n 0, 1) := by decide +kernel
theorem dX6_take_35 : decode cX6_take 35 = .ok (.getfield 18, 3) := by decide +kernel
theorem dX6_take_38 : decode cX6_take 38 = .ok (.arraylength, 1) := by decide +kernel
theorem dX6_take_39 : decode cX6_take 39 = .ok (.invokestatic 31, 3) := by decide +kernel
theorem dX6_take_42 : decode cX6_take 42 = .ok (.aload_n 1, 1) := by decide +kernel
theorem dX6_take_43 : decode cX6_take 43 = .ok (.getfield 22, 3) := by decide +kernel
theorem dX6_take_46 : decode cX6_take 46 = .ok (.iconst 0, 1) := by decide +kernel
theorem dX6_take_47 : decode cX6_take 47 = .ok (.aload_n 0, 1) := by decide +kernel
theorem dX6_take_48 : decode cX6_take 48 = .ok (.getfield 22, 3) := by decide +kernel
theorem dX6_take_51 : decode cX6_take 51 = .ok (.iconst 0, 1) := by decide +kernel
theorem dX6_take_52 : decode cX6_take 52 = .ok (.aload_n 0, 1) := by decide +kernel
theorem dX6_take_53 : decode cX6_take 53 = .ok (.getfield 22, 3) := by decide +kernel
theorem dX6_take_56 : decode cX6_take 56 = .ok (.arraylength, 1) := by decide +kernel
theorem dX6_take_57 : decode cX6_take 57 = .ok (.invokestatic 31, 3) := by decide +kernel
theorem dX6_take_60 : decode cX6_take 60 = .ok (.aload_n 1, 1) := by decide +kernel
theorem dX6_take_61 : decode cX6_take 61 = .ok (.getfield 25, 3) := by decide +kernel
theorem dX6_take_64 : decode cX6_take 64 = .ok (.iconst 0, 1) := by decide +kernel
theorem dX6_take_65 : decode cX6_take 65 = .ok (.aload_n 0, 1) := by decide +kernel
theorem dX6_take_66 : decode cX6_take 66 = .ok (.getfield 25, 3) := by decide +kernel
theorem dX6_take_69 : decode cX6_take 69 = .ok (.iconst 0, 1) := by decide +kernel
theorem dX6_take_70 : decode cX6_take 70 = .ok (.aload_n 0, 1) := by decide +kernel
theorem dX6_take_71 : decode cX6_take 71 = .ok (.getfield 25, 3) := by decide +kernel
theorem dX6_take_74 : decode cX6_take 74 = .ok (.arraylength, 1) := by decide +kernel
theorem dX6_take_75 : decode cX6_take 75 = .ok (.invokestatic 31, 3) := by decide +kernel
theorem dX6_take_78 : decode cX6_take 78 = .ok (.return_, 1) := by decide +kernel
theorem dX6_add_0 : decode cX6_add 0 = .ok (.aload_n 0, 1) := by decide +kernel
theorem dX6_add_1 : decode cX6_add 1 = .ok (.getfield 28, 3) := by decide +kernel
theorem dX6_add_4 : decode cX6_add 4 = .ok (.istore_n 2, 1) := by decide +kernel
theorem dX6_add_5 : decode cX6_add 5 = .ok (.aload_n 0, 1) := by decide +kernel
theorem dX6_add_6 : decode cX6_add 6 = .ok (.dup, 1) := by decide +kernel
theorem dX6_add_7 : decode cX6_add 7 = .ok (.getfield 28, 3) := by decide +kernel
theorem dX6_add_10 : decode cX6_add 10 = .ok (.iconst 1, 1) := by decide +kernel
theorem dX6_add_11 : decode cX6_add 11 = .ok (.iadd, 1) := by decide +kernel
theorem dX6_add_12 : decode cX6_add 12 = .ok (.putfield 28, 3) := by decide +kernel
theorem dX6_add_15 : decode cX6_add 15 = .ok (.getstatic 37, 3) := by decide +kernel
theorem dX6_add_18 : decode cX6_add 18 = .ok (.iconst 0, 1) := by decide +kernel
theorem dX6_add_19 : decode cX6_add 19 = .ok (.aload_n 0, 1) := by decide +kernel
theorem dX6_add_20 : decode cX6_add 20 = .ok (.getfield 18, 3) := by decide +kernel
theorem dX6_add_23 : decode cX6_add 23 = .ok (.iload_n 2, 1) := by decide +kernel
theorem dX6_add_24 : decode cX6_add 24 = .ok (.bipush 6, 2) := by decide +kernel
theorem dX6_add_26 : decode cX6_add 26 = .ok (.imul, 1) := by decide +kernel
theorem dX6_add_27 : decode cX6_add 27 = .ok (.bipush 6, 2) := by decide +kernel
theorem dX6_add_29 : decode cX6_add 29 = .ok (.invokestatic 31, 3) := by decide +kernel
theorem dX6_add_32 : decode cX6_add 32 = .ok (.aload_n 0, 1) := by decide +kernel
theorem dX6_add_33 : decode cX6_add 33 = .ok (.getfield 18, 3) := by decide +kernel
theorem dX6_add_36 : decode cX6_add 36 = .ok (.iload_n 2, 1) := by decide +kernel
theorem dX6_add_37 : decode cX6_add 37 = .ok (.bipush 6, 2) := by decide +kernel
theorem dX6_add_39 : decode cX6_add 39 = .ok (.imul, 1) := by decide +kernel
theorem dX6_add_40 : decode cX6_add 40 = .ok (.iconst 0, 1) := by decide +kernel
theorem dX6_add_41 : decode cX6_add 41 = .ok (.iadd, 1) := by decide +kernel
theorem dX6_add_42 : decode cX6_add 42 = .ok (.iload_n 1, 1) := by decide +kernel
theorem dX6_add_43 : decode cX6_add 43 = .ok (.iastore, 1) := by decide +kernel
theorem dX6_add_44 : decode cX6_add 44 = .ok (.iload_n 2, 1) := by decide +kernel
theorem dX6_add_45 : decode cX6_add 45 = .ok (.ireturn, 1) := by decide +kernel
theorem dX6_has_0 : decode cX6_has 0 = .ok (.iload_n 1, 1) := by decide +kernel
theorem dX6_has_1 : decode cX6_has 1 = .ok (.ifCond .lt 15, 3) := by decide +kernel
theorem dX6_has_4 : decode cX6_has 4 = .ok (.iload_n 1, 1) := by decide +kernel
theorem dX6_has_5 : decode cX6_has 5 = .ok (.aload_n 0, 1) := by decide +kernel
theorem dX6_has_6 : decode cX6_has 6 = .ok (.getfield 28, 3) := by decide +kernel
theorem dX6_has_9 : decode cX6_has 9 = .ok (.if_icmp .ge 7, 3) := by decide +kernel
theorem dX6_has_12 : decode cX6_has 12 = .ok (.iconst 1, 1) := by decide +kernel
theorem dX6_has_13 : decode cX6_has 13 = .ok (.goto 4, 3) := by decide +kernel
theorem dX6_has_16 : decode cX6_has 16 = .ok (.iconst 0, 1) := by decide +kernel
theorem dX6_has_17 : decode cX6_has 17 = .ok (.ireturn, 1) := by decide +kernel
theorem dX6_hasTwo_0 : decode cX6_hasTwo 0 = .ok (.aload_n 0, 1) := by decide +kernel
theorem dX6_hasTwo_1 : decode cX6_hasTwo 1 = .ok (.iload_n 1, 1) := by decide +kernel
theorem dX6_hasTwo_2 : decode cX6_hasTwo 2 = .ok (.invokevirtual 40, 3) := by decide +kernel
theorem dX6_hasTwo_5 : decode cX6_hasTwo 5 = .ok (.ifCond .eq 20, 3) := by decide +kernel
theorem dX6_hasTwo_8 : decode cX6_hasTwo 8 = .ok (.aload_n 0, 1) := by decide +kernel
theorem dX6_hasTwo_9 : decode cX6_hasTwo 9 = .ok (.iload_n 2, 1) := by decide +kernel
theorem dX6_hasTwo_10 : decode cX6_hasTwo 10 = .ok (.invokevirtual 40, 3) := by decide +kernel
theorem dX6_hasTwo_13 : decode cX6_hasTwo 13 = .ok (.ifCond .eq 12, 3) := by decide +kernel
theorem dX6_hasTwo_16 : decode cX6_hasTwo 16 = .ok (.iload_n 1, 1) := by decide +kernel
theorem dX6_hasTwo_17 : decode cX6_hasTwo 17 = .ok (.iload_n 2, 1) := by decide +kernel
theorem dX6_hasTwo_18 : decode cX6_hasTwo 18 = .ok (.if_icmp .eq 7, 3) := by decide +kernel
theorem dX6_hasTwo_21 : decode cX6_hasTwo 21 = .ok (.iconst 1, 1) := by decide +kernel
theorem dX6_hasTwo_22 : decode cX6_hasTwo 22 = .ok (.goto 4, 3) := by decide +kernel
theorem dX6_hasTwo_25 : decode cX6_hasTwo 25 = .ok (.iconst 0, 1) := by decide +kernel
theorem dX6_hasTwo_26 : decode cX6_hasTwo 26 = .ok (.ireturn, 1) := by decide +kernel
theorem dX6_value_0 : decode cX6_value 0 = .ok (.aload_n 0, 1) := by decide +kernel
theorem dX6_value_1 : decode cX6_value 1 = .ok (.getfield 18, 3) := by decide +kernel
theorem dX6_value_4 : decode cX6_value 4 = .ok (.iload_n 1, 1) := by decide +kernel
theorem dX6_value_5 : decode cX6_value 5 = .ok (.bipush 6, 2) := by decide +kernel
theorem dX6_value_7 : decode cX6_value 7 = .ok (.imul, 1) := by decide +kernel
theorem dX6_value_8 : decode cX6_value 8 = .ok (.iload_n 2, 1) := by decide +kernel
theorem dX6_value_9 : decode cX6_value 9 = .ok (.iadd, 1) := by decide +kernel
theorem dX6_value_10 : decode cX6_value 10 = .ok (.iaload, 1) := by decide +kernel
theorem dX6_value_11 : decode cX6_value 11 = .ok (.ireturn, 1) := by decide +kernel
theorem dX6_change_0 : decode cX6_change 0 = .ok (.aload_n 0, 1) := by decide +kernel
theorem dX6_change_1 : decode cX6_change 1 = .ok (.iload_n 1, 1) := by decide +kernel
theorem dX6_change_2 : decode cX6_change 2 = .ok (.iload_n 2, 1) := by decide +kernel
theorem dX6_change_3 : decode cX6_change 3 = .ok (.invokevirtual 44, 3) := by decide +kernel
theorem dX6_change_6 : decode cX6_change 6 = .ok (.istore 4, 2) := by decide +kernel
theorem dX6_change_8 : decode cX6_change 8 = .ok (.aload_n 0, 1) := by decide +kernel
theorem dX6_change_9 : decode cX6_change 9 = .ok (.getfield 18, 3) := by decide +kernel
theorem dX6_change_12 : decode cX6_change 12 = .ok (.iload_n 1, 1) := by decide +kernel
theorem dX6_change_13 : decode cX6_change 13 = .ok (.bipush 6, 2) := by decide +kernel
theorem dX6_change_15 : decode cX6_change 15 = .ok (.imul, 1) := by decide +kernel
theorem dX6_change_16 : decode cX6_change 16 = .ok (.iload_n 2, 1) := by decide +kernel
theorem dX6_change_17 : decode cX6_change 17 = .ok (.iadd, 1) := by decide +kernel
theorem dX6_change_18 : decode cX6_change 18 = .ok (.iload_n 3, 1) := by decide +kernel
theorem dX6_change_19 : decode cX6_change 19 = .ok (.iastore, 1) := by decide +kernel
theorem dX6_change_20 : decode cX6_change 20 = .ok (.iload 4, 2) := by decide +kernel
theorem dX6_change_22 : decode cX6_change 22 = .ok (.ireturn, 1) := by decide +kernel
theorem dX6_sings_0 : decode cX6_sings 0 = .ok (.aload_n 0, 1) := by decide +kernel
theorem dX6_sings_1 : decode cX6_sings 1 = .ok (.iload_n 1, 1) := by decide +kernel
theorem dX6_sings_2 : decode cX6_sings 2 = .ok (.iconst 0, 1) := by decide +kernel
theorem dX6_sings_3 : decode cX6_sings 3 = .ok (.invokevirtual 44, 3) := by decide +kernel
theorem dX6_sings_6 : decode cX6_sings 6 = .ok (.iconst 4, 1) := by decide +kernel
theorem dX6_sings_7 : decode cX6_sings 7 = .ok (.if_icmp .ge 7, 3) := by decide +kernel
theorem dX6_sings_10 : decode cX6_sings 10 = .ok (.iconst 1, 1) := by decide +kernel
theorem dX6_sings_11 : decode cX6_sings 11 = .ok (.goto 4, 3) := by decide +kernel
theorem dX6_sings_14 : decode cX6_sings 14 = .ok (.iconst 0, 1) := by decide +kernel
theorem dX6_sings_15 : decode cX6_sings 15 = .ok (.ireturn, 1) := by decide +kernel
theorem dX6_isCut_0 : decode cX6_isCut 0 = .ok (.aload_n 0, 1) := by decide +kernel
theorem dX6_isCut_1 : decode cX6_isCut 1 = .ok (.iload_n 1, 1) := by decide +kernel
theorem dX6_isCut_2 : decode cX6_isCut 2 = .ok (.iconst 0, 1) := by decide +kernel
theorem dX6_isCut_3 : decode cX6_isCut 3 = .ok (.invokevirtual 44, 3) := by decide +kernel
theorem dX6_isCut_6 : decode cX6_isCut 6 = .ok (.iconst 5, 1) := by decide +kernel
theorem dX6_isCut_7 : decode cX6_isCut 7 = .ok (.if_icmp .ne 7, 3) := by decide +kernel
theorem dX6_isCut_10 : decode cX6_isCut 10 = .ok (.iconst 1, 1) := by decide +kernel
theorem dX6_isCut_11 : decode cX6_isCut 11 = .ok (.goto 4, 3) := by decide +kernel
theorem dX6_isCut_14 : decode cX6_isCut 14 = .ok (.iconst 0, 1) := by decide +kernel
theorem dX6_isCut_15 : decode cX6_isCut 15 = .ok (.ireturn, 1) := by decide +kernel
theorem dX6_all_0 : decode cX6_all 0 = .ok (.iconst 1, 1) := by decide +kernel
theorem dX6_all_1 : decode cX6_all 1 = .ok (.aload_n 0, 1) := by decide +kernel
theorem dX6_all_2 : decode cX6_all 2 = .ok (.getfield 28, 3) := by decide +kernel
theorem dX6_all_5 : decode cX6_all 5 = .ok (.ishl, 1) := by decide +kernel
theorem dX6_all_6 : decode cX6_all 6 = .ok (.iconst 1, 1) := by decide +kernel
theorem dX6_all_7 : decode cX6_all 7 = .ok (.isub, 1) := by decide +kernel
theorem dX6_all_8 : decode cX6_all 8 = .ok (.ireturn, 1) := by decide +kernel
theorem dX6_singers_0 : decode cX6_singers 0 = .ok (.iconst 0, 1) := by decide +kernel
theorem dX6_singers_1 : decode cX6_singers 1 = .ok (.istore_n 1, 1) := by decide +kernel
theorem dX6_singers_2 : decode cX6_singers 2 = .ok (.iconst 0, 1) := by decide +kernel
theorem dX6_singers_3 : decode cX6_singers 3 = .ok (.istore_n 2, 1) := by decide +kernel
theorem dX6_singers_4 : decode cX6_singers 4 = .ok (.iload_n 2, 1) := by decide +kernel
theorem dX6_singers_5 : decode cX6_singers 5 = .ok (.aload_n 0, 1) := by decide +kernel
theorem dX6_singers_6 : decode cX6_singers 6 = .ok (.getfield 28, 3) := by decide +kernel
theorem dX6_singers_9 : decode cX6_singers 9 = .ok (.if_icmp .ge 27, 3) := by decide +kernel
theorem dX6_singers_12 : decode cX6_singers 12 = .ok (.iload_n 1, 1) := by decide +kernel
theorem dX6_singers_13 : decode cX6_singers 13 = .ok (.aload_n 0, 1) := by decide +kernel
theorem dX6_singers_14 : decode cX6_singers 14 = .ok (.iload_n 2, 1) := by decide +kernel
theorem dX6_singers_15 : decode cX6_singers 15 = .ok (.invokevirtual 48, 3) := by decide +kernel
theorem dX6_singers_18 : decode cX6_singers 18 = .ok (.ifCond .eq 9, 3) := by decide +kernel
theorem dX6_singers_21 : decode cX6_singers 21 = .ok (.iconst 1, 1) := by decide +kernel
theorem dX6_singers_22 : decode cX6_singers 22 = .ok (.iload_n 2, 1) := by decide +kernel
theorem dX6_singers_23 : decode cX6_singers 23 = .ok (.ishl, 1) := by decide +kernel
theorem dX6_singers_24 : decode cX6_singers 24 = .ok (.goto 4, 3) := by decide +kernel
theorem dX6_singers_27 : decode cX6_singers 27 = .ok (.iconst 0, 1) := by decide +kernel
theorem dX6_singers_28 : decode cX6_singers 28 = .ok (.ior, 1) := by decide +kernel
theorem dX6_singers_29 : decode cX6_singers 29 = .ok (.istore_n 1, 1) := by decide +kernel
theorem dX6_singers_30 : decode cX6_singers 30 = .ok (.iinc 2 1, 3) := by decide +kernel
theorem dX6_singers_33 : decode cX6_singers 33 = .ok (.goto (-29), 3) := by decide +kernel
theorem dX6_singers_36 : decode cX6_singers 36 = .ok (.iload_n 1, 1) := by decide +kernel
theorem dX6_singers_37 : decode cX6_singers 37 = .ok (.ireturn, 1) := by decide +kernel
theorem dX6_uncut_0 : decode cX6_uncut 0 = .ok (.iconst 0, 1) := by decide +kernel
theorem dX6_uncut_1 : decode cX6_uncut 1 = .ok (.istore_n 1, 1) := by decide +kernel
theorem dX6_uncut_2 : decode cX6_uncut 2 = .ok (.iconst 0, 1) := by decide +kernel
theorem dX6_uncut_3 : decode cX6_uncut 3 = .ok (.istore_n 2, 1) := by decide +kernel
theorem dX6_uncut_4 : decode cX6_uncut 4 = .ok (.iload_n 2, 1) := by decide +kernel
theorem dX6_uncut_5 : decode cX6_uncut 5 = .ok (.aload_n 0, 1) := by decide +kernel
theorem dX6_uncut_6 : decode cX6_uncut 6 = .ok (.getfield 28, 3) := by decide +kernel
theorem dX6_uncut_9 : decode cX6_uncut 9 = .ok (.if_icmp .ge 27, 3) := by decide +kernel
theorem dX6_uncut_12 : decode cX6_uncut 12 = .ok (.iload_n 1, 1) := by decide +kernel
theorem dX6_uncut_13 : decode cX6_uncut 13 = .ok (.aload_n 0, 1) := by decide +kernel
theorem dX6_uncut_14 : decode cX6_uncut 14 = .ok (.iload_n 2, 1) := by decide +kernel
theorem dX6_uncut_15 : decode cX6_uncut 15 = .ok (.invokevirtual 51, 3) := by decide +kernel
theorem dX6_uncut_18 : decode cX6_uncut 18 = .ok (.ifCond .eq 7, 3) := by decide +kernel
theorem dX6_uncut_21 : decode cX6_uncut 21 = .ok (.iconst 0, 1) := by decide +kernel
theorem dX6_uncut_22 : decode cX6_uncut 22 = .ok (.goto 6, 3) := by decide +kernel
theorem dX6_uncut_25 : decode cX6_uncut 25 = .ok (.iconst 1, 1) := by decide +kernel
theorem dX6_uncut_26 : decode cX6_uncut 26 = .ok (.iload_n 2, 1) := by decide +kernel
theorem dX6_uncut_27 : decode cX6_uncut 27 = .ok (.ishl, 1) := by decide +kernel
theorem dX6_uncut_28 : decode cX6_uncut 28 = .ok (.ior, 1) := by decide +kernel
theorem dX6_uncut_29 : decode cX6_uncut 29 = .ok (.istore_n 1, 1) := by decide +kernel
theorem dX6_uncut_30 : decode cX6_uncut 30 = .ok (.iinc 2 1, 3) := by decide +kernel
theorem dX6_uncut_33 : decode cX6_uncut 33 = .ok (.goto (-29), 3) := by decide +kernel
theorem dX6_uncut_36 : decode cX6_uncut 36 = .ok (.iload_n 1, 1) := by decide +kernel
theorem dX6_uncut_37 : decode cX6_uncut 37 = .ok (.ireturn, 1) := by decide +kernel
theorem dX6_between_0 : decode cX6_between 0 = .ok (.aload_n 0, 1) := by decide +kernel
theorem dX6_between_1 : decode cX6_between 1 = .ok (.getfield 22, 3) := by decide +kernel
theorem dX6_between_4 : decode cX6_between 4 = .ok (.iload_n 1, 1) := by decide +kernel
theorem dX6_between_5 : decode cX6_between 5 = .ok (.bipush 8, 2) := by decide +kernel
theorem dX6_between_7 : decode cX6_between 7 = .ok (.imul, 1) := by decide +kernel
theorem dX6_between_8 : decode cX6_between 8 = .ok (.iload_n 2, 1) := by decide +kernel
theorem dX6_between_9 : decode cX6_between 9 = .ok (.iadd, 1) := by decide +kernel
theorem dX6_between_10 : decode cX6_between 10 = .ok (.iaload, 1) := by decide +kernel
theorem dX6_between_11 : decode cX6_between 11 = .ok (.ireturn, 1) := by decide +kernel
theorem dX6_lay_0 : decode cX6_lay 0 = .ok (.aload_n 0, 1) := by decide +kernel
theorem dX6_lay_1 : decode cX6_lay 1 = .ok (.iload_n 1, 1) := by decide +kernel
theorem dX6_lay_2 : decode cX6_lay 2 = .ok (.iload_n 2, 1) := by decide +kernel
theorem dX6_lay_3 : decode cX6_lay 3 = .ok (.invokevirtual 54, 3) := by decide +kernel
theorem dX6_lay_6 : decode cX6_lay 6 = .ok (.istore 4, 2) := by decide +kernel
theorem dX6_lay_8 : decode cX6_lay 8 = .ok (.aload_n 0, 1) := by decide +kernel
theorem dX6_lay_9 : decode cX6_lay 9 = .ok (.getfield 22, 3) := by decide +kernel
theorem dX6_lay_12 : decode cX6_lay 12 = .ok (.iload_n 1, 1) := by decide +kernel
theorem dX6_lay_13 : decode cX6_lay 13 = .ok (.bipush 8, 2) := by decide +kernel
theorem dX6_lay_15 : decode cX6_lay 15 = .ok (.imul, 1) := by decide +kernel
theorem dX6_lay_16 : decode cX6_lay 16 = .ok (.iload_n 2, 1) := by decide +kernel
theorem dX6_lay_17 : decode cX6_lay 17 = .ok (.iadd, 1) := by decide +kernel
theorem dX6_lay_18 : decode cX6_lay 18 = .ok (.iload_n 3, 1) := by decide +kernel
theorem dX6_lay_19 : decode cX6_lay 19 = .ok (.iastore, 1) := by decide +kernel
theorem dX6_lay_20 : decode cX6_lay 20 = .ok (.iload 4, 2) := by decide +kernel
theorem dX6_lay_22 : decode cX6_lay 22 = .ok (.ireturn, 1) := by decide +kernel
theorem dX6_canLayAll_0 : decode cX6_canLayAll 0 = .ok (.iconst 0, 1) := by decide +kernel
theorem dX6_canLayAll_1 : decode cX6_canLayAll 1 = .ok (.istore 4, 2) := by decide +kernel
theorem dX6_canLayAll_3 : decode cX6_canLayAll 3 = .ok (.iload 4, 2) := by decide +kernel
theorem dX6_canLayAll_5 : decode cX6_canLayAll 5 = .ok (.aload_n 0, 1) := by decide +kernel
theorem dX6_canLayAll_6 : decode cX6_canLayAll 6 = .ok (.getfield 28, 3) := by decide +kernel
theorem dX6_canLayAll_9 : decode cX6_canLayAll 9 = .ok (.if_icmp .ge 46, 3) := by decide +kernel
theorem dX6_canLayAll_12 : decode cX6_canLayAll 12 = .ok (.aload_n 2, 1) := by decide +kernel
theorem dX6_canLayAll_13 : decode cX6_canLayAll 13 = .ok (.getfield 57, 3) := by decide +kernel
theorem dX6_canLayAll_16 : decode cX6_canLayAll 16 = .ok (.iload_n 3, 1) := by decide +kernel
theorem dX6_canLayAll_17 : decode cX6_canLayAll 17 = .ok (.iload 4, 2) := by decide +kernel
theorem dX6_canLayAll_19 : decode cX6_canLayAll 19 = .ok (.iadd, 1) := by decide +kernel
theorem dX6_canLayAll_20 : decode cX6_canLayAll 20 = .ok (.iaload, 1) := by decide +kernel
theorem dX6_canLayAll_21 : decode cX6_canLayAll 21 = .ok (.istore 5, 2) := by decide +kernel
theorem dX6_canLayAll_23 : decode cX6_canLayAll 23 = .ok (.iload 5, 2) := by decide +kernel
theorem dX6_canLayAll_25 : decode cX6_canLayAll 25 = .ok (.ifCond .lt 22, 3) := by decide +kernel
theorem dX6_canLayAll_28 : decode cX6_canLayAll 28 = .ok (.iload 5, 2) := by decide +kernel
theorem dX6_canLayAll_30 : decode cX6_canLayAll 30 = .ok (.sipush 400, 3) := by decide +kernel
theorem dX6_canLayAll_33 : decode cX6_canLayAll 33 = .ok (.if_icmp .gt 14, 3) := by decide +kernel
theorem dX6_canLayAll_36 : decode cX6_canLayAll 36 = .ok (.iload 4, 2) := by decide +kernel
theorem dX6_canLayAll_38 : decode cX6_canLayAll 38 = .ok (.iload_n 1, 1) := by decide +kernel
theorem dX6_canLayAll_39 : decode cX6_canLayAll 39 = .ok (.if_icmp .ne 10, 3) := by decide +kernel
theorem dX6_canLayAll_42 : decode cX6_canLayAll 42 = .ok (.iload 5, 2) := by decide +kernel
theorem dX6_canLayAll_44 : decode cX6_canLayAll 44 = .ok (.ifCond .eq 5, 3) := by decide +kernel
theorem dX6_canLayAll_47 : decode cX6_canLayAll 47 = .ok (.iconst 0, 1) := by decide +kernel
theorem dX6_canLayAll_48 : decode cX6_canLayAll 48 = .ok (.ireturn, 1) := by decide +kernel
theorem dX6_canLayAll_49 : decode cX6_canLayAll 49 = .ok (.iinc 4 1, 3) := by decide +kernel
theorem dX6_canLayAll_52 : decode cX6_canLayAll 52 = .ok (.goto (-49), 3) := by decide +kernel
theorem dX6_canLayAll_55 : decode cX6_canLayAll 55 = .ok (.iconst 1, 1) := by decide +kernel
theorem dX6_canLayAll_56 : decode cX6_canLayAll 56 = .ok (.ireturn, 1) := by decide +kernel
theorem dX6_layAll_0 : decode cX6_layAll 0 = .ok (.iconst 0, 1) := by decide +kernel
theorem dX6_layAll_1 : decode cX6_layAll 1 = .ok (.istore 4, 2) := by decide +kernel
theorem dX6_layAll_3 : decode cX6_layAll 3 = .ok (.iconst 0, 1) := by decide +kernel
theorem dX6_layAll_4 : decode cX6_layAll 4 = .ok (.istore 5, 2) := by decide +kernel
theorem dX6_layAll_6 : decode cX6_layAll 6 = .ok (.iload 5, 2) := by decide +kernel
theorem dX6_layAll_8 : decode cX6_layAll 8 = .ok (.aload_n 0, 1) := by decide +kernel
theorem dX6_layAll_9 : decode cX6_layAll 9 = .ok (.getfield 28, 3) := by decide +kernel
theorem dX6_layAll_12 : decode cX6_layAll 12 = .ok (.if_icmp .ge 46, 3) := by decide +kernel
theorem dX6_layAll_15 : decode cX6_layAll 15 = .ok (.aload_n 0, 1) := by decide +kernel
theorem dX6_layAll_16 : decode cX6_layAll 16 = .ok (.iload_n 1, 1) := by decide +kernel
theorem dX6_layAll_17 : decode cX6_layAll 17 = .ok (.iload 5, 2) := by decide +kernel
theorem dX6_layAll_19 : decode cX6_layAll 19 = .ok (.aload_n 2, 1) := by decide +kernel
theorem dX6_layAll_20 : decode cX6_layAll 20 = .ok (.getfield 57, 3) := by decide +kernel
theorem dX6_layAll_23 : decode cX6_layAll 23 = .ok (.iload_n 3, 1) := by decide +kernel
theorem dX6_layAll_24 : decode cX6_layAll 24 = .ok (.iload 5, 2) := by decide +kernel
theorem dX6_layAll_26 : decode cX6_layAll 26 = .ok (.iadd, 1) := by decide +kernel
theorem dX6_layAll_27 : decode cX6_layAll 27 = .ok (.iaload, 1) := by decide +kernel
theorem dX6_layAll_28 : decode cX6_layAll 28 = .ok (.invokevirtual 62, 3) := by decide +kernel
theorem dX6_layAll_31 : decode cX6_layAll 31 = .ok (.pop, 1) := by decide +kernel
theorem dX6_layAll_32 : decode cX6_layAll 32 = .ok (.iload 4, 2) := by decide +kernel
theorem dX6_layAll_34 : decode cX6_layAll 34 = .ok (.aload_n 0, 1) := by decide +kernel
theorem dX6_layAll_35 : decode cX6_layAll 35 = .ok (.iload_n 1, 1) := by decide +kernel
theorem dX6_layAll_36 : decode cX6_layAll 36 = .ok (.iload 5, 2) := by decide +kernel
theorem dX6_layAll_38 : decode cX6_layAll 38 = .ok (.invokevirtual 54, 3) := by decide +kernel
theorem dX6_layAll_41 : decode cX6_layAll 41 = .ok (.ifCond .le 7, 3) := by decide +kernel
theorem dX6_layAll_44 : decode cX6_layAll 44 = .ok (.iconst 1, 1) := by decide +kernel
theorem dX6_layAll_45 : decode cX6_layAll 45 = .ok (.goto 4, 3) := by decide +kernel
theorem dX6_layAll_48 : decode cX6_layAll 48 = .ok (.iconst 0, 1) := by decide +kernel
theorem dX6_layAll_49 : decode cX6_layAll 49 = .ok (.iadd, 1) := by decide +kernel
theorem dX6_layAll_50 : decode cX6_layAll 50 = .ok (.istore 4, 2) := by decide +kernel
theorem dX6_layAll_52 : decode cX6_layAll 52 = .ok (.iinc 5 1, 3) := by decide +kernel
theorem dX6_layAll_55 : decode cX6_layAll 55 = .ok (.goto (-49), 3) := by decide +kernel
theorem dX6_layAll_58 : decode cX6_layAll 58 = .ok (.iload 4, 2) := by decide +kernel
theorem dX6_layAll_60 : decode cX6_layAll 60 = .ok (.ireturn, 1) := by decide +kernel
theorem dX6_wiresInAll_0 : decode cX6_wiresInAll 0 = .ok (.iconst 0, 1) := by decide +kernel
theorem dX6_wiresInAll_1 : decode cX6_wiresInAll 1 = .ok (.istore_n 1, 1) := by decide +kernel
theorem dX6_wiresInAll_2 : decode cX6_wiresInAll 2 = .ok (.aload_n 0, 1) := by decide +kernel
theorem dX6_wiresInAll_3 : decode cX6_wiresInAll 3 = .ok (.getfield 22, 3) := by decide +kernel
theorem dX6_wiresInAll_6 : decode cX6_wiresInAll 6 = .ok (.astore_n 2, 1) := by decide +kernel
theorem dX6_wiresInAll_7 : decode cX6_wiresInAll 7 = .ok (.aload_n 2, 1) := by decide +kernel
theorem dX6_wiresInAll_8 : decode cX6_wiresInAll 8 = .ok (.arraylength, 1) := by decide +kernel
theorem dX6_wiresInAll_9 : decode cX6_wiresInAll 9 = .ok (.istore_n 3, 1) := by decide +kernel
theorem dX6_wiresInAll_10 : decode cX6_wiresInAll 10 = .ok (.iconst 0, 1) := by decide +kernel
theorem dX6_wiresInAll_11 : decode cX6_wiresInAll 11 = .ok (.istore 4, 2) := by decide +kernel
theorem dX6_wiresInAll_13 : decode cX6_wiresInAll 13 = .ok (.iload 4, 2) := by decide +kernel
theorem dX6_wiresInAll_15 : decode cX6_wiresInAll 15 = .ok (.iload_n 3, 1) := by decide +kernel
theorem dX6_wiresInAll_16 : decode cX6_wiresInAll 16 = .ok (.if_icmp .ge 28, 3) := by decide +kernel
theorem dX6_wiresInAll_19 : decode cX6_wiresInAll 19 = .ok (.aload_n 2, 1) := by decide +kernel
theorem dX6_wiresInAll_20 : decode cX6_wiresInAll 20 = .ok (.iload 4, 2) := by decide +kernel
theorem dX6_wiresInAll_22 : decode cX6_wiresInAll 22 = .ok (.iaload, 1) := by decide +kernel
theorem dX6_wiresInAll_23 : decode cX6_wiresInAll 23 = .ok (.istore 5, 2) := by decide +kernel
theorem dX6_wiresInAll_25 : decode cX6_wiresInAll 25 = .ok (.iload_n 1, 1) := by decide +kernel
theorem dX6_wiresInAll_26 : decode cX6_wiresInAll 26 = .ok (.iload 5, 2) := by decide +kernel
theorem dX6_wiresInAll_28 : decode cX6_wiresInAll 28 = .ok (.ifCond .le 7, 3) := by decide +kernel
theorem dX6_wiresInAll_31 : decode cX6_wiresInAll 31 = .ok (.iconst 1, 1) := by decide +kernel
theorem dX6_wiresInAll_32 : decode cX6_wiresInAll 32 = .ok (.goto 4, 3) := by decide +kernel
theorem dX6_wiresInAll_35 : decode cX6_wiresInAll 35 = .ok (.iconst 0, 1) := by decide +kernel
theorem dX6_wiresInAll_36 : decode cX6_wiresInAll 36 = .ok (.iadd, 1) := by decide +kernel
theorem dX6_wiresInAll_37 : decode cX6_wiresInAll 37 = .ok (.istore_n 1, 1) := by decide +kernel
theorem dX6_wiresInAll_38 : decode cX6_wiresInAll 38 = .ok (.iinc 4 1, 3) := by decide +kernel
theorem dX6_wiresInAll_41 : decode cX6_wiresInAll 41 = .ok (.goto (-28), 3) := by decide +kernel
theorem dX6_wiresInAll_44 : decode cX6_wiresInAll 44 = .ok (.iload_n 1, 1) := by decide +kernel
theorem dX6_wiresInAll_45 : decode cX6_wiresInAll 45 = .ok (.ireturn, 1) := by decide +kernel
theorem dX6_reachedByAll_0 : decode cX6_reachedByAll 0 = .ok (.iconst 0, 1) := by decide +kernel
theorem dX6_reachedByAll_1 : decode cX6_reachedByAll 1 = .ok (.istore_n 3, 1) := by decide +kernel
theorem dX6_reachedByAll_2 : decode cX6_reachedByAll 2 = .ok (.iload_n 3, 1) := by decide +kernel
theorem dX6_reachedByAll_3 : decode cX6_reachedByAll 3 = .ok (.aload_n 0, 1) := by decide +kernel
theorem dX6_reachedByAll_4 : decode cX6_reachedByAll 4 = .ok (.getfield 28, 3) := by decide +kernel
theorem dX6_reachedByAll_7 : decode cX6_reachedByAll 7 = .ok (.if_icmp .ge 28, 3) := by decide +kernel
theorem dX6_reachedByAll_10 : decode cX6_reachedByAll 10 = .ok (.iload_n 2, 1) := by decide +kernel
theorem dX6_reachedByAll_11 : decode cX6_reachedByAll 11 = .ok (.iload_n 3, 1) := by decide +kernel
theorem dX6_reachedByAll_12 : decode cX6_reachedByAll 12 = .ok (.ishr, 1) := by decide +kernel
theorem dX6_reachedByAll_13 : decode cX6_reachedByAll 13 = .ok (.iconst 1, 1) := by decide +kernel
theorem dX6_reachedByAll_14 : decode cX6_reachedByAll 14 = .ok (.iand, 1) := by decide +kernel
theorem dX6_reachedByAll_15 : decode cX6_reachedByAll 15 = .ok (.ifCond .eq 14, 3) := by decide +kernel
theorem dX6_reachedByAll_18 : decode cX6_reachedByAll 18 = .ok (.aload_n 0, 1) := by decide +kernel
theorem dX6_reachedByAll_19 : decode cX6_reachedByAll 19 = .ok (.iload_n 3, 1) := by decide +kernel
theorem dX6_reachedByAll_20 : decode cX6_reachedByAll 20 = .ok (.iload_n 1, 1) := by decide +kernel
theorem dX6_reachedByAll_21 : decode cX6_reachedByAll 21 = .ok (.invokevirtual 54, 3) := by decide +kernel
theorem dX6_reachedByAll_24 : decode cX6_reachedByAll 24 = .ok (.ifCond .ne 5, 3) := by decide +kernel
theorem dX6_reachedByAll_27 : decode cX6_reachedByAll 27 = .ok (.iconst 0, 1) := by decide +kernel
theorem dX6_reachedByAll_28 : decode cX6_reachedByAll 28 = .ok (.ireturn, 1) := by decide +kernel
theorem dX6_reachedByAll_29 : decode cX6_reachedByAll 29 = .ok (.iinc 3 1, 3) := by decide +kernel
theorem dX6_reachedByAll_32 : decode cX6_reachedByAll 32 = .ok (.goto (-30), 3) := by decide +kernel
theorem dX6_reachedByAll_35 : decode cX6_reachedByAll 35 = .ok (.iconst 1, 1) := by decide +kernel
theorem dX6_reachedByAll_36 : decode cX6_reachedByAll 36 = .ok (.ireturn, 1) := by decide +kernel
theorem dX6_longestWire_0 : decode cX6_longestWire 0 = .ok (.iconst 0, 1) := by decide +kernel
theorem dX6_longestWire_1 : decode cX6_longestWire 1 = .ok (.istore_n 3, 1) := by decide +kernel
theorem dX6_longestWire_2 : decode cX6_longestWire 2 = .ok (.iconst 0, 1) := by decide +kernel
theorem dX6_longestWire_3 : decode cX6_longestWire 3 = .ok (.istore 4, 2) := by decide +kernel
theorem dX6_longestWire_5 : decode cX6_longestWire 5 = .ok (.iload 4, 2) := by decide +kernel
theorem dX6_longestWire_7 : decode cX6_longestWire 7 = .ok (.aload_n 0, 1) := by decide +kernel
theorem dX6_longestWire_8 : decode cX6_longestWire 8 = .ok (.getfield 28, 3) := by decide +kernel
theorem dX6_longestWire_11 : decode cX6_longestWire 11 = .ok (.if_icmp .ge 30, 3) := by decide +kernel
theorem dX6_longestWire_14 : decode cX6_longestWire 14 = .ok (.iload_n 2, 1) := by decide +kernel
theorem dX6_longestWire_15 : decode cX6_longestWire 15 = .ok (.iload 4, 2) := by decide +kernel
theorem dX6_longestWire_17 : decode cX6_longestWire 17 = .ok (.ishr, 1) := by decide +kernel
theorem dX6_longestWire_18 : decode cX6_longestWire 18 = .ok (.iconst 1, 1) := by decide +kernel
theorem dX6_longestWire_19 : decode cX6_longestWire 19 = .ok (.iand, 1) := by decide +kernel
theorem dX6_longestWire_20 : decode cX6_longestWire 20 = .ok (.ifCond .eq 15, 3) := by decide +kernel
theorem dX6_longestWire_23 : decode cX6_longestWire 23 = .ok (.iload_n 3, 1) := by decide +kernel
theorem dX6_longestWire_24 : decode cX6_longestWire 24 = .ok (.aload_n 0, 1) := by decide +kernel
theorem dX6_longestWire_25 : decode cX6_longestWire 25 = .ok (.iload 4, 2) := by decide +kernel
theorem dX6_longestWire_27 : decode cX6_longestWire 27 = .ok (.iload_n 1, 1) := by decide +kernel
theorem dX6_longestWire_28 : decode cX6_longestWire 28 = .ok (.invokevirtual 54, 3) := by decide +kernel
theorem dX6_longestWire_31 : decode cX6_longestWire 31 = .ok (.invokestatic 66, 3) := by decide +kernel
theorem dX6_longestWire_34 : decode cX6_longestWire 34 = .ok (.istore_n 3, 1) := by decide +kernel
theorem dX6_longestWire_35 : decode cX6_longestWire 35 = .ok (.iinc 4 1, 3) := by decide +kernel
theorem dX6_longestWire_38 : decode cX6_longestWire 38 = .ok (.goto (-33), 3) := by decide +kernel
theorem dX6_longestWire_41 : decode cX6_longestWire 41 = .ok (.iload_n 3, 1) := by decide +kernel
theorem dX6_longestWire_42 : decode cX6_longestWire 42 = .ok (.ireturn, 1) := by decide +kernel
theorem dX6_shortestWire_0 : decode cX6_shortestWire 0 = .ok (.sipush 400, 3) := by decide +kernel
theorem dX6_shortestWire_3 : decode cX6_shortestWire 3 = .ok (.istore_n 3, 1) := by decide +kernel
theorem dX6_shortestWire_4 : decode cX6_shortestWire 4 = .ok (.iconst 0, 1) := by decide +kernel
theorem dX6_shortestWire_5 : decode cX6_shortestWire 5 = .ok (.istore 4, 2) := by decide +kernel
theorem dX6_shortestWire_7 : decode cX6_shortestWire 7 = .ok (.iload 4, 2) := by decide +kernel
theorem dX6_shortestWire_9 : decode cX6_shortestWire 9 = .ok (.aload_n 0, 1) := by decide +kernel
theorem dX6_shortestWire_10 : decode cX6_shortestWire 10 = .ok (.getfield 28, 3) := by decide +kernel
theorem dX6_shortestWire_13 : decode cX6_shortestWire 13 = .ok (.if_icmp .ge 30, 3) := by decide +kernel
theorem dX6_shortestWire_16 : decode cX6_shortestWire 16 = .ok (.iload_n 2, 1) := by decide +kernel
theorem dX6_shortestWire_17 : decode cX6_shortestWire 17 = .ok (.iload 4, 2) := by decide +kernel
theorem dX6_shortestWire_19 : decode cX6_shortestWire 19 = .ok (.ishr, 1) := by decide +kernel
theorem dX6_shortestWire_20 : decode cX6_shortestWire 20 = .ok (.iconst 1, 1) := by decide +kernel
theorem dX6_shortestWire_21 : decode cX6_shortestWire 21 = .ok (.iand, 1) := by decide +kernel
theorem dX6_shortestWire_22 : decode cX6_shortestWire 22 = .ok (.ifCond .eq 15, 3) := by decide +kernel
theorem dX6_shortestWire_25 : decode cX6_shortestWire 25 = .ok (.iload_n 3, 1) := by decide +kernel
theorem dX6_shortestWire_26 : decode cX6_shortestWire 26 = .ok (.aload_n 0, 1) := by decide +kernel
theorem dX6_shortestWire_27 : decode cX6_shortestWire 27 = .ok (.iload 4, 2) := by decide +kernel
theorem dX6_shortestWire_29 : decode cX6_shortestWire 29 = .ok (.iload_n 1, 1) := by decide +kernel
theorem dX6_shortestWire_30 : decode cX6_shortestWire 30 = .ok (.invokevirtual 54, 3) := by decide +kernel
theorem dX6_shortestWire_33 : decode cX6_shortestWire 33 = .ok (.invokestatic 71, 3) := by decide +kernel
theorem dX6_shortestWire_36 : decode cX6_shortestWire 36 = .ok (.istore_n 3, 1) := by decide +kernel
theorem dX6_shortestWire_37 : decode cX6_shortestWire 37 = .ok (.iinc 4 1, 3) := by decide +kernel
theorem dX6_shortestWire_40 : decode cX6_shortestWire 40 = .ok (.goto (-33), 3) := by decide +kernel
theorem dX6_shortestWire_43 : decode cX6_shortestWire 43 = .ok (.iload_n 3, 1) := by decide +kernel
theorem dX6_shortestWire_44 : decode cX6_shortestWire 44 = .ok (.ireturn, 1) := by decide +kernel
theorem dX6_costOfHolding_0 : decode cX6_costOfHolding 0 = .ok (.iconst 0, 1) := by decide +kernel
theorem dX6_costOfHolding_1 : decode cX6_costOfHolding 1 = .ok (.istore 4, 2) := by decide +kernel
theorem dX6_costOfHolding_3 : decode cX6_costOfHolding 3 = .ok (.iconst 0, 1) := by decide +kernel
theorem dX6_costOfHolding_4 : decode cX6_costOfHolding 4 = .ok (.istore 5, 2) := by decide +kernel
theorem dX6_costOfHolding_6 : decode cX6_costOfHolding 6 = .ok (.iload 5, 2) := by decide +kernel
theorem dX6_costOfHolding_8 : decode cX6_costOfHolding 8 = .ok (.aload_n 0, 1) := by decide +kernel
theorem dX6_costOfHolding_9 : decode cX6_costOfHolding 9 = .ok (.getfield 28, 3) := by decide +kernel
theorem dX6_costOfHolding_12 : decode cX6_costOfHolding 12 = .ok (.if_icmp .ge 32, 3) := by decide +kernel
theorem dX6_costOfHolding_15 : decode cX6_costOfHolding 15 = .ok (.iload_n 2, 1) := by decide +kernel
theorem dX6_costOfHolding_16 : decode cX6_costOfHolding 16 = .ok (.iload 5, 2) := by decide +kernel
theorem dX6_costOfHolding_18 : decode cX6_costOfHolding 18 = .ok (.ishr, 1) := by decide +kernel
theorem dX6_costOfHolding_19 : decode cX6_costOfHolding 19 = .ok (.iconst 1, 1) := by decide +kernel
theorem dX6_costOfHolding_20 : decode cX6_costOfHolding 20 = .ok (.iand, 1) := by decide +kernel
theorem dX6_costOfHolding_21 : decode cX6_costOfHolding 21 = .ok (.ifCond .eq 17, 3) := by decide +kernel
theorem dX6_costOfHolding_24 : decode cX6_costOfHolding 24 = .ok (.iload 4, 2) := by decide +kernel
theorem dX6_costOfHolding_26 : decode cX6_costOfHolding 26 = .ok (.iload_n 3, 1) := by decide +kernel
theorem dX6_costOfHolding_27 : decode cX6_costOfHolding 27 = .ok (.aload_n 0, 1) := by decide +kernel
theorem dX6_costOfHolding_28 : decode cX6_costOfHolding 28 = .ok (.iload 5, 2) := by decide +kernel
theorem dX6_costOfHolding_30 : decode cX6_costOfHolding 30 = .ok (.iload_n 1, 1) := by decide +kernel
theorem dX6_costOfHolding_31 : decode cX6_costOfHolding 31 = .ok (.invokevirtual 54, 3) := by decide +kernel
theorem dX6_costOfHolding_34 : decode cX6_costOfHolding 34 = .ok (.isub, 1) := by decide +kernel
theorem dX6_costOfHolding_35 : decode cX6_costOfHolding 35 = .ok (.iadd, 1) := by decide +kernel
theorem dX6_costOfHolding_36 : decode cX6_costOfHolding 36 = .ok (.istore 4, 2) := by decide +kernel
theorem dX6_costOfHolding_38 : decode cX6_costOfHolding 38 = .ok (.iinc 5 1, 3) := by decide +kernel
theorem dX6_costOfHolding_41 : decode cX6_costOfHolding 41 = .ok (.goto (-35), 3) := by decide +kernel
theorem dX6_costOfHolding_44 : decode cX6_costOfHolding 44 = .ok (.iload 4, 2) := by decide +kernel
theorem dX6_costOfHolding_46 : decode cX6_costOfHolding 46 = .ok (.ireturn, 1) := by decide +kernel
theorem dX6_leastBeat_0 : decode cX6_leastBeat 0 = .ok (.getstatic 74, 3) := by decide +kernel
theorem dX6_leastBeat_3 : decode cX6_leastBeat 3 = .ok (.iconst 5, 1) := by decide +kernel
theorem dX6_leastBeat_4 : decode cX6_leastBeat 4 = .ok (.iaload, 1) := by decide +kernel
theorem dX6_leastBeat_5 : decode cX6_leastBeat 5 = .ok (.istore_n 2, 1) := by decide +kernel
theorem dX6_leastBeat_6 : decode cX6_leastBeat 6 = .ok (.iconst 0, 1) := by decide +kernel
theorem dX6_leastBeat_7 : decode cX6_leastBeat 7 = .ok (.istore_n 3, 1) := by decide +kernel
theorem dX6_leastBeat_8 : decode cX6_leastBeat 8 = .ok (.iload_n 3, 1) := by decide +kernel
theorem dX6_leastBeat_9 : decode cX6_leastBeat 9 = .ok (.aload_n 0, 1) := by decide +kernel
theorem dX6_leastBeat_10 : decode cX6_leastBeat 10 = .ok (.getfield 28, 3) := by decide +kernel
theorem dX6_leastBeat_13 : decode cX6_leastBeat 13 = .ok (.if_icmp .ge 28, 3) := by decide +kernel
theorem dX6_leastBeat_16 : decode cX6_leastBeat 16 = .ok (.iload_n 1, 1) := by decide +kernel
theorem dX6_leastBeat_17 : decode cX6_leastBeat 17 = .ok (.iload_n 3, 1) := by decide +kernel
theorem dX6_leastBeat_18 : decode cX6_leastBeat 18 = .ok (.ishr, 1) := by decide +kernel
theorem dX6_leastBeat_19 : decode cX6_leastBeat 19 = .ok (.iconst 1, 1) := by decide +kernel
theorem dX6_leastBeat_20 : decode cX6_leastBeat 20 = .ok (.iand, 1) := by decide +kernel
theorem dX6_leastBeat_21 : decode cX6_leastBeat 21 = .ok (.ifCond .eq 14, 3) := by decide +kernel
theorem dX6_leastBeat_24 : decode cX6_leastBeat 24 = .ok (.iload_n 2, 1) := by decide +kernel
theorem dX6_leastBeat_25 : decode cX6_leastBeat 25 = .ok (.aload_n 0, 1) := by decide +kernel
theorem dX6_leastBeat_26 : decode cX6_leastBeat 26 = .ok (.iload_n 3, 1) := by decide +kernel
theorem dX6_leastBeat_27 : decode cX6_leastBeat 27 = .ok (.iconst 5, 1) := by decide +kernel
theorem dX6_leastBeat_28 : decode cX6_leastBeat 28 = .ok (.invokevirtual 44, 3) := by decide +kernel
theorem dX6_leastBeat_31 : decode cX6_leastBeat 31 = .ok (.invokestatic 71, 3) := by decide +kernel
theorem dX6_leastBeat_34 : decode cX6_leastBeat 34 = .ok (.istore_n 2, 1) := by decide +kernel
theorem dX6_leastBeat_35 : decode cX6_leastBeat 35 = .ok (.iinc 3 1, 3) := by decide +kernel
theorem dX6_leastBeat_38 : decode cX6_leastBeat 38 = .ok (.goto (-30), 3) := by decide +kernel
theorem dX6_leastBeat_41 : decode cX6_leastBeat 41 = .ok (.iload_n 2, 1) := by decide +kernel
theorem dX6_leastBeat_42 : decode cX6_leastBeat 42 = .ok (.ireturn, 1) := by decide +kernel
theorem dX6_losesWord_0 : decode cX6_losesWord 0 = .ok (.aload_n 0, 1) := by decide +kernel
theorem dX6_losesWord_1 : decode cX6_losesWord 1 = .ok (.getfield 25, 3) := by decide +kernel
theorem dX6_losesWord_4 : decode cX6_losesWord 4 = .ok (.iload_n 1, 1) := by decide +kernel
theorem dX6_losesWord_5 : decode cX6_losesWord 5 = .ok (.iconst 1, 1) := by decide +kernel
theorem dX6_losesWord_6 : decode cX6_losesWord 6 = .ok (.isub, 1) := by decide +kernel
theorem dX6_losesWord_7 : decode cX6_losesWord 7 = .ok (.bipush 8, 2) := by decide +kernel
theorem dX6_losesWord_9 : decode cX6_losesWord 9 = .ok (.imul, 1) := by decide +kernel
theorem dX6_losesWord_10 : decode cX6_losesWord 10 = .ok (.iload_n 2, 1) := by decide +kernel
theorem dX6_losesWord_11 : decode cX6_losesWord 11 = .ok (.iadd, 1) := by decide +kernel
theorem dX6_losesWord_12 : decode cX6_losesWord 12 = .ok (.iaload, 1) := by decide +kernel
theorem dX6_losesWord_13 : decode cX6_losesWord 13 = .ok (.iload_n 3, 1) := by decide +kernel
theorem dX6_losesWord_14 : decode cX6_losesWord 14 = .ok (.ishr, 1) := by decide +kernel
theorem dX6_losesWord_15 : decode cX6_losesWord 15 = .ok (.iconst 1, 1) := by decide +kernel
theorem dX6_losesWord_16 : decode cX6_losesWord 16 = .ok (.iand, 1) := by decide +kernel
theorem dX6_losesWord_17 : decode cX6_losesWord 17 = .ok (.ifCond .eq 7, 3) := by decide +kernel
theorem dX6_losesWord_20 : decode cX6_losesWord 20 = .ok (.iconst 1, 1) := by decide +kernel
theorem dX6_losesWord_21 : decode cX6_losesWord 21 = .ok (.goto 4, 3) := by decide +kernel
theorem dX6_losesWord_24 : decode cX6_losesWord 24 = .ok (.iconst 0, 1) := by decide +kernel
theorem dX6_losesWord_25 : decode cX6_losesWord 25 = .ok (.ireturn, 1) := by decide +kernel
theorem dX6_loseWord_0 : decode cX6_loseWord 0 = .ok (.aload_n 0, 1) := by decide +kernel
theorem dX6_loseWord_1 : decode cX6_loseWord 1 = .ok (.iload_n 1, 1) := by decide +kernel
theorem dX6_loseWord_2 : decode cX6_loseWord 2 = .ok (.iload_n 2, 1) := by decide +kernel
theorem dX6_loseWord_3 : decode cX6_loseWord 3 = .ok (.iload_n 3, 1) := by decide +kernel
theorem dX6_loseWord_4 : decode cX6_loseWord 4 = .ok (.invokevirtual 77, 3) := by decide +kernel
theorem dX6_loseWord_7 : decode cX6_loseWord 7 = .ok (.ifCond .eq 7, 3) := by decide +kernel
theorem dX6_loseWord_10 : decode cX6_loseWord 10 = .ok (.iconst 1, 1) := by decide +kernel
theorem dX6_loseWord_11 : decode cX6_loseWord 11 = .ok (.goto 4, 3) := by decide +kernel
theorem dX6_loseWord_14 : decode cX6_loseWord 14 = .ok (.iconst 0, 1) := by decide +kernel
theorem dX6_loseWord_15 : decode cX6_loseWord 15 = .ok (.istore 5, 2) := by decide +kernel
theorem dX6_loseWord_17 : decode cX6_loseWord 17 = .ok (.iload_n 1, 1) := by decide +kernel
theorem dX6_loseWord_18 : decode cX6_loseWord 18 = .ok (.iconst 1, 1) := by decide +kernel
theorem dX6_loseWord_19 : decode cX6_loseWord 19 = .ok (.isub, 1) := by decide +kernel
theorem dX6_loseWord_20 : decode cX6_loseWord 20 = .ok (.bipush 8, 2) := by decide +kernel
theorem dX6_loseWord_22 : decode cX6_loseWord 22 = .ok (.imul, 1) := by decide +kernel
theorem dX6_loseWord_23 : decode cX6_loseWord 23 = .ok (.iload_n 2, 1) := by decide +kernel
theorem dX6_loseWord_24 : decode cX6_loseWord 24 = .ok (.iadd, 1) := by decide +kernel
theorem dX6_loseWord_25 : decode cX6_loseWord 25 = .ok (.istore 6, 2) := by decide +kernel
theorem dX6_loseWord_27 : decode cX6_loseWord 27 = .ok (.aload_n 0, 1) := by decide +kernel
theorem dX6_loseWord_28 : decode cX6_loseWord 28 = .ok (.getfield 25, 3) := by decide +kernel
theorem dX6_loseWord_31 : decode cX6_loseWord 31 = .ok (.iload 6, 2) := by decide +kernel
theorem dX6_loseWord_33 : decode cX6_loseWord 33 = .ok (.iload 4, 2) := by decide +kernel
theorem dX6_loseWord_35 : decode cX6_loseWord 35 = .ok (.ifCond .eq 17, 3) := by decide +kernel
theorem dX6_loseWord_38 : decode cX6_loseWord 38 = .ok (.aload_n 0, 1) := by decide +kernel
theorem dX6_loseWord_39 : decode cX6_loseWord 39 = .ok (.getfield 25, 3) := by decide +kernel
theorem dX6_loseWord_42 : decode cX6_loseWord 42 = .ok (.iload 6, 2) := by decide +kernel
theorem dX6_loseWord_44 : decode cX6_loseWord 44 = .ok (.iaload, 1) := by decide +kernel
theorem dX6_loseWord_45 : decode cX6_loseWord 45 = .ok (.iconst 1, 1) := by decide +kernel
theorem dX6_loseWord_46 : decode cX6_loseWord 46 = .ok (.iload_n 3, 1) := by decide +kernel
theorem dX6_loseWord_47 : decode cX6_loseWord 47 = .ok (.ishl, 1) := by decide +kernel
theorem dX6_loseWord_48 : decode cX6_loseWord 48 = .ok (.ior, 1) := by decide +kernel
theorem dX6_loseWord_49 : decode cX6_loseWord 49 = .ok (.goto 16, 3) := by decide +kernel
theorem dX6_loseWord_52 : decode cX6_loseWord 52 = .ok (.aload_n 0, 1) := by decide +kernel
theorem dX6_loseWord_53 : decode cX6_loseWord 53 = .ok (.getfield 25, 3) := by decide +kernel
theorem dX6_loseWord_56 : decode cX6_loseWord 56 = .ok (.iload 6, 2) := by decide +kernel
theorem dX6_loseWord_58 : decode cX6_loseWord 58 = .ok (.iaload, 1) := by decide +kernel
theorem dX6_loseWord_59 : decode cX6_loseWord 59 = .ok (.iconst 1, 1) := by decide +kernel
theorem dX6_loseWord_60 : decode cX6_loseWord 60 = .ok (.iload_n 3, 1) := by decide +kernel
theorem dX6_loseWord_61 : decode cX6_loseWord 61 = .ok (.ishl, 1) := by decide +kernel
theorem dX6_loseWord_62 : decode cX6_loseWord 62 = .ok (.iconst (-1), 1) := by decide +kernel
theorem dX6_loseWord_63 : decode cX6_loseWord 63 = .ok (.ixor, 1) := by decide +kernel
theorem dX6_loseWord_64 : decode cX6_loseWord 64 = .ok (.iand, 1) := by decide +kernel
theorem dX6_loseWord_65 : decode cX6_loseWord 65 = .ok (.iastore, 1) := by decide +kernel
theorem dX6_loseWord_66 : decode cX6_loseWord 66 = .ok (.iload 5, 2) := by decide +kernel
theorem dX6_loseWord_68 : decode cX6_loseWord 68 = .ok (.ireturn, 1) := by decide +kernel
theorem dX7_init_0 : decode cX7_init 0 = .ok (.aload_n 0, 1) := by decide +kernel
theorem dX7_init_1 : decode cX7_init 1 = .ok (.invokespecial 3, 3) := by decide +kernel
theorem dX7_init_4 : decode cX7_init 4 = .ok (.aload_n 0, 1) := by decide +kernel
theorem dX7_init_5 : decode cX7_init 5 = .ok (.iconst (-1), 1) := by decide +kernel
theorem dX7_init_6 : decode cX7_init 6 = .ok (.putfield 9, 3) := by decide +kernel
theorem dX7_init_9 : decode cX7_init 9 = .ok (.aload_n 0, 1) := by decide +kernel
theorem dX7_init_10 : decode cX7_init 10 = .ok (.bipush 40, 2) := by decide +kernel
theorem dX7_init_12 : decode cX7_init 12 = .ok (.newarray .int, 2) := by decide +kernel
theorem dX7_init_14 : decode cX7_init 14 = .ok (.putfield 15, 3) := by decide +kernel
theorem dX7_init_17 : decode cX7_init 17 = .ok (.return_, 1) := by decide +kernel
theorem dX7_refusal_0 : decode cX7_refusal 0 = .ok (.aload_n 0, 1) := by decide +kernel
theorem dX7_refusal_1 : decode cX7_refusal 1 = .ok (.getfield 9, 3) := by decide +kernel
theorem dX7_refusal_4 : decode cX7_refusal 4 = .ok (.iconst (-1), 1) := by decide +kernel
theorem dX7_refusal_5 : decode cX7_refusal 5 = .ok (.if_icmp .ne 6, 3) := by decide +kernel
theorem dX7_refusal_8 : decode cX7_refusal 8 = .ok (.bipush (-11), 2) := by decide +kernel
theorem dX7_refusal_10 : decode cX7_refusal 10 = .ok (.ireturn, 1) := by decide +kernel
theorem dX7_refusal_11 : decode cX7_refusal 11 = .ok (.aload_n 0, 1) := by decide +kernel
theorem dX7_refusal_12 : decode cX7_refusal 12 = .ok (.getfield 9, 3) := by decide +kernel
theorem dX7_refusal_15 : decode cX7_refusal 15 = .ok (.iload_n 1, 1) := by decide +kernel
theorem dX7_refusal_16 : decode cX7_refusal 16 = .ok (.if_icmp .ne 7, 3) := by decide +kernel
theorem dX7_refusal_19 : decode cX7_refusal 19 = .ok (.iconst 0, 1) := by decide +kernel
theorem dX7_refusal_20 : decode cX7_refusal 20 = .ok (.goto 5, 3) := by decide +kernel
theorem dX7_refusal_23 : decode cX7_refusal 23 = .ok (.bipush (-12), 2) := by decide +kernel
theorem dX7_refusal_25 : decode cX7_refusal 25 = .ok (.ireturn, 1) := by decide +kernel
theorem dX7_holds_0 : decode cX7_holds 0 = .ok (.iload_n 1, 1) := by decide +kernel
theorem dX7_holds_1 : decode cX7_holds 1 = .ok (.ifCond .lt 21, 3) := by decide +kernel
theorem dX7_holds_4 : decode cX7_holds 4 = .ok (.iload_n 2, 1) := by decide +kernel
theorem dX7_holds_5 : decode cX7_holds 5 = .ok (.ifCond .lt 17, 3) := by decide +kernel
theorem dX7_holds_8 : decode cX7_holds 8 = .ok (.iload_n 1, 1) := by decide +kernel
theorem dX7_holds_9 : decode cX7_holds 9 = .ok (.aload_n 0, 1) := by decide +kernel
theorem dX7_holds_10 : decode cX7_holds 10 = .ok (.getfield 19, 3) := by decide +kernel
theorem dX7_holds_13 : decode cX7_holds 13 = .ok (.iload_n 2, 1) := by decide +kernel
theorem dX7_holds_14 : decode cX7_holds 14 = .ok (.isub, 1) := by decide +kernel
theorem dX7_holds_15 : decode cX7_holds 15 = .ok (.if_icmp .gt 7, 3) := by decide +kernel
theorem dX7_holds_18 : decode cX7_holds 18 = .ok (.iconst 1, 1) := by decide +kernel
theorem dX7_holds_19 : decode cX7_holds 19 = .ok (.goto 4, 3) := by decide +kernel
theorem dX7_holds_22 : decode cX7_holds 22 = .ok (.iconst 0, 1) := by decide +kernel
theorem dX7_holds_23 : decode cX7_holds 23 = .ok (.ireturn, 1) := by decide +kernel
theorem dX7_renew_0 : decode cX7_renew 0 = .ok (.aload_n 0, 1) := by decide +kernel
theorem dX7_renew_1 : decode cX7_renew 1 = .ok (.iload_n 1, 1) := by decide +kernel
theorem dX7_renew_2 : decode cX7_renew 2 = .ok (.putfield 9, 3) := by decide +kernel
theorem dX7_renew_5 : decode cX7_renew 5 = .ok (.aload_n 0, 1) := by decide +kernel
theorem dX7_renew_6 : decode cX7_renew 6 = .ok (.iload_n 2, 1) := by decide +kernel
theorem dX7_renew_7 : decode cX7_renew 7 = .ok (.putfield 19, 3) := by decide +kernel
theorem dX7_renew_10 : decode cX7_renew 10 = .ok (.aload_n 0, 1) := by decide +kernel
theorem dX7_renew_11 : decode cX7_renew 11 = .ok (.getfield 15, 3) := by decide +kernel
theorem dX7_renew_14 : decode cX7_renew 14 = .ok (.iconst 0, 1) := by decide +kernel
theorem dX7_renew_15 : decode cX7_renew 15 = .ok (.invokestatic 22, 3) := by decide +kernel
theorem dX7_renew_18 : decode cX7_renew 18 = .ok (.iload_n 2, 1) := by decide +kernel
theorem dX7_renew_19 : decode cX7_renew 19 = .ok (.ireturn, 1) := by decide +kernel
theorem dX7_empty_0 : decode cX7_empty 0 = .ok (.aload_n 0, 1) := by decide +kernel
theorem dX7_empty_1 : decode cX7_empty 1 = .ok (.iconst (-1), 1) := by decide +kernel
theorem dX7_empty_2 : decode cX7_empty 2 = .ok (.putfield 9, 3) := by decide +kernel
theorem dX7_empty_5 : decode cX7_empty 5 = .ok (.aload_n 0, 1) := by decide +kernel
theorem dX7_empty_6 : decode cX7_empty 6 = .ok (.getfield 19, 3) := by decide +kernel
theorem dX7_empty_9 : decode cX7_empty 9 = .ok (.ireturn, 1) := by decide +kernel
theorem dX7_put_0 : decode cX7_put 0 = .ok (.aload_n 0, 1) := by decide +kernel
theorem dX7_put_1 : decode cX7_put 1 = .ok (.getfield 15, 3) := by decide +kernel
theorem dX7_put_4 : decode cX7_put 4 = .ok (.iload_n 1, 1) := by decide +kernel
theorem dX7_put_5 : decode cX7_put 5 = .ok (.aload_n 0, 1) := by decide +kernel
theorem dX7_put_6 : decode cX7_put 6 = .ok (.getfield 9, 3) := by decide +kernel
theorem dX7_put_9 : decode cX7_put 9 = .ok (.ifCond .ne 8, 3) := by decide +kernel
theorem dX7_put_12 : decode cX7_put 12 = .ok (.iload_n 2, 1) := by decide +kernel
theorem dX7_put_13 : decode cX7_put 13 = .ok (.i2b, 1) := by decide +kernel
theorem dX7_put_14 : decode cX7_put 14 = .ok (.goto 17, 3) := by decide +kernel
theorem dX7_put_17 : decode cX7_put 17 = .ok (.aload_n 0, 1) := by decide +kernel
theorem dX7_put_18 : decode cX7_put 18 = .ok (.getfield 9, 3) := by decide +kernel
theorem dX7_put_21 : decode cX7_put 21 = .ok (.iconst 1, 1) := by decide +kernel
theorem dX7_put_22 : decode cX7_put 22 = .ok (.if_icmp .ne 8, 3) := by decide +kernel
theorem dX7_put_25 : decode cX7_put 25 = .ok (.iload_n 2, 1) := by decide +kernel
theorem dX7_put_26 : decode cX7_put 26 = .ok (.i2s, 1) := by decide +kernel
theorem dX7_put_27 : decode cX7_put 27 = .ok (.goto 4, 3) := by decide +kernel
theorem dX7_put_30 : decode cX7_put 30 = .ok (.iload_n 2, 1) := by decide +kernel
theorem dX7_put_31 : decode cX7_put 31 = .ok (.iastore, 1) := by decide +kernel
theorem dX7_put_32 : decode cX7_put 32 = .ok (.iconst 1, 1) := by decide +kernel
theorem dX7_put_33 : decode cX7_put 33 = .ok (.ireturn, 1) := by decide +kernel
theorem dX8_init_0 : decode cX8_init 0 = .ok (.aload_n 0, 1) := by decide +kernel
theorem dX8_init_1 : decode cX8_init 1 = .ok (.invokespecial 3, 3) := by decide +kernel
theorem dX8_init_4 : decode cX8_init 4 = .ok (.aload_n 0, 1) := by decide +kernel
theorem dX8_init_5 : decode cX8_init 5 = .ok (.new 9, 3) := by decide +kernel
theorem dX8_init_8 : decode cX8_init 8 = .ok (.dup, 1) := by decide +kernel
theorem dX8_init_9 : decode cX8_init 9 = .ok (.invokespecial 11, 3) := by decide +kernel
theorem dX8_init_12 : decode cX8_init 12 = .ok (.putfield 12, 3) := by decide +kernel
theorem dX8_init_15 : decode cX8_init 15 = .ok (.aload_n 0, 1) := by decide +kernel
theorem dX8_init_16 : decode cX8_init 16 = .ok (.bipush 120, 2) := by decide +kernel
theorem dX8_init_18 : decode cX8_init 18 = .ok (.newarray .byte, 2) := by decide +kernel
theorem dX8_init_20 : decode cX8_init 20 = .ok (.putfield 18, 3) := by decide +kernel
theorem dX8_init_23 : decode cX8_init 23 = .ok (.return_, 1) := by decide +kernel
theorem dX8_canStand_0 : decode cX8_canStand 0 = .ok (.iconst 0, 1) := by decide +kernel
theorem dX8_canStand_1 : decode cX8_canStand 1 = .ok (.istore_n 3, 1) := by decide +kernel
theorem dX8_canStand_2 : decode cX8_canStand 2 = .ok (.iload_n 3, 1) := by decide +kernel
theorem dX8_canStand_3 : decode cX8_canStand 3 = .ok (.iload_n 2, 1) := by decide +kernel
theorem dX8_canStand_4 : decode cX8_canStand 4 = .ok (.if_icmp .ge 38, 3) := by decide +kernel
theorem dX8_canStand_7 : decode cX8_canStand 7 = .ok (.lload_n 0, 1) := by decide +kernel
theorem dX8_canStand_8 : decode cX8_canStand 8 = .ok (.bipush 8, 2) := by decide +kernel
theorem dX8_canStand_10 : decode cX8_canStand 10 = .ok (.iload_n 3, 1) := by decide +kernel
theorem dX8_canStand_11 : decode cX8_canStand 11 = .ok (.imul, 1) := by decide +kernel
theorem dX8_canStand_12 : decode cX8_canStand 12 = .ok (.lshr, 1) := by decide +kernel
theorem dX8_canStand_13 : decode cX8_canStand 13 = .ok (.l2i, 1) := by decide +kernel
theorem dX8_canStand_14 : decode cX8_canStand 14 = .ok (.sipush 255, 3) := by decide +kernel
theorem dX8_canStand_17 : decode cX8_canStand 17 = .ok (.iand, 1) := by decide +kernel
theorem dX8_canStand_18 : decode cX8_canStand 18 = .ok (.istore 4, 2) := by decide +kernel
theorem dX8_canStand_20 : decode cX8_canStand 20 = .ok (.iload 4, 2) := by decide +kernel
theorem dX8_canStand_22 : decode cX8_canStand 22 = .ok (.bipush 32, 2) := by decide +kernel
theorem dX8_canStand_24 : decode cX8_canStand 24 = .ok (.if_icmp .lt 10, 3) := by decide +kernel
theorem dX8_canStand_27 : decode cX8_canStand 27 = .ok (.iload 4, 2) := by decide +kernel
theorem dX8_canStand_29 : decode cX8_canStand 29 = .ok (.bipush 126, 2) := by decide +kernel
theorem dX8_canStand_31 : decode cX8_canStand 31 = .ok (.if_icmp .le 5, 3) := by decide +kernel
theorem dX8_canStand_34 : decode cX8_canStand 34 = .ok (.iconst 0, 1) := by decide +kernel
theorem dX8_canStand_35 : decode cX8_canStand 35 = .ok (.ireturn, 1) := by decide +kernel
theorem dX8_canStand_36 : decode cX8_canStand 36 = .ok (.iinc 3 1, 3) := by decide +kernel
theorem dX8_canStand_39 : decode cX8_canStand 39 = .ok (.goto (-37), 3) := by decide +kernel
theorem dX8_canStand_42 : decode cX8_canStand 42 = .ok (.iconst 1, 1) := by decide +kernel
theorem dX8_canStand_43 : decode cX8_canStand 43 = .ok (.ireturn, 1) := by decide +kernel
theorem dX8_append_0 : decode cX8_append 0 = .ok (.iload_n 3, 1) := by decide +kernel
theorem dX8_append_1 : decode cX8_append 1 = .ok (.iconst 1, 1) := by decide +kernel
theorem dX8_append_2 : decode cX8_append 2 = .ok (.isub, 1) := by decide +kernel
theorem dX8_append_3 : decode cX8_append 3 = .ok (.istore 4, 2) := by decide +kernel
theorem dX8_append_5 : decode cX8_append 5 = .ok (.iload 4, 2) := by decide +kernel
theorem dX8_append_7 : decode cX8_append 7 = .ok (.ifCond .lt 37, 3) := by decide +kernel
theorem dX8_append_10 : decode cX8_append 10 = .ok (.aload_n 0, 1) := by decide +kernel
theorem dX8_append_11 : decode cX8_append 11 = .ok (.getfield 18, 3) := by decide +kernel
theorem dX8_append_14 : decode cX8_append 14 = .ok (.aload_n 0, 1) := by decide +kernel
theorem dX8_append_15 : decode cX8_append 15 = .ok (.getfield 22, 3) := by decide +kernel
theorem dX8_append_18 : decode cX8_append 18 = .ok (.lload_n 1, 1) := by decide +kernel
theorem dX8_append_19 : decode cX8_append 19 = .ok (.bipush 8, 2) := by decide +kernel
theorem dX8_append_21 : decode cX8_append 21 = .ok (.iload 4, 2) := by decide +kernel
theorem dX8_append_23 : decode cX8_append 23 = .ok (.imul, 1) := by decide +kernel
theorem dX8_append_24 : decode cX8_append 24 = .ok (.lshr, 1) := by decide +kernel
theorem dX8_append_25 : decode cX8_append 25 = .ok (.l2i, 1) := by decide +kernel
theorem dX8_append_26 : decode cX8_append 26 = .ok (.i2b, 1) := by decide +kernel
theorem dX8_append_27 : decode cX8_append 27 = .ok (.bastore, 1) := by decide +kernel
theorem dX8_append_28 : decode cX8_append 28 = .ok (.aload_n 0, 1) := by decide +kernel
theorem dX8_append_29 : decode cX8_append 29 = .ok (.dup, 1) := by decide +kernel
theorem dX8_append_30 : decode cX8_append 30 = .ok (.getfield 22, 3) := by decide +kernel
theorem dX8_append_33 : decode cX8_append 33 = .ok (.iconst 1, 1) := by decide +kernel
theorem dX8_append_34 : decode cX8_append 34 = .ok (.iadd, 1) := by decide +kernel
theorem dX8_append_35 : decode cX8_append 35 = .ok (.putfield 22, 3) := by decide +kernel
theorem dX8_append_38 : decode cX8_append 38 = .ok (.iinc 4 (-1), 3) := by decide +kernel
theorem dX8_append_41 : decode cX8_append 41 = .ok (.goto (-36), 3) := by decide +kernel
theorem dX8_append_44 : decode cX8_append 44 = .ok (.aload_n 0, 1) := by decide +kernel
theorem dX8_append_45 : decode cX8_append 45 = .ok (.getfield 22, 3) := by decide +kernel
theorem dX8_append_48 : decode cX8_append 48 = .ok (.ireturn, 1) := by decide +kernel
theorem dX8_read_0 : decode cX8_read 0 = .ok (.aload_n 0, 1) := by decide +kernel
theorem dX8_read_1 : decode cX8_read 1 = .ok (.getfield 12, 3) := by decide +kernel
theorem dX8_read_4 : decode cX8_read 4 = .ok (.iconst 0, 1) := by decide +kernel
theorem dX8_read_5 : decode cX8_read 5 = .ok (.putfield 26, 3) := by decide +kernel
theorem dX8_read_8 : decode cX8_read 8 = .ok (.aload_n 0, 1) := by decide +kernel
theorem dX8_read_9 : decode cX8_read 9 = .ok (.iconst 0, 1) := by decide +kernel
theorem dX8_read_10 : decode cX8_read 10 = .ok (.putfield 27, 3) := by decide +kernel
theorem dX8_read_13 : decode cX8_read 13 = .ok (.iconst 0, 1) := by decide +kernel
theorem dX8_read_14 : decode cX8_read 14 = .ok (.istore_n 1, 1) := by decide +kernel
theorem dX8_read_15 : decode cX8_read 15 = .ok (.iload_n 1, 1) := by decide +kernel
theorem dX8_read_16 : decode cX8_read 16 = .ok (.bipush 40, 2) := by decide +kernel
theorem dX8_read_18 : decode cX8_read 18 = .ok (.if_icmp .gt 40, 3) := by decide +kernel
theorem dX8_read_21 : decode cX8_read 21 = .ok (.iload_n 1, 1) := by decide +kernel
theorem dX8_read_22 : decode cX8_read 22 = .ok (.ifCond .le 19, 3) := by decide +kernel
theorem dX8_read_25 : decode cX8_read 25 = .ok (.aload_n 0, 1) := by decide +kernel
theorem dX8_read_26 : decode cX8_read 26 = .ok (.invokevirtual 30, 3) := by decide +kernel
theorem dX8_read_29 : decode cX8_read 29 = .ok (.iconst (-1), 1) := by decide +kernel
theorem dX8_read_30 : decode cX8_read 30 = .ok (.if_icmp .ne 11, 3) := by decide +kernel
theorem dX8_read_33 : decode cX8_read 33 = .ok (.aload_n 0, 1) := by decide +kernel
theorem dX8_read_34 : decode cX8_read 34 = .ok (.getfield 12, 3) := by decide +kernel
theorem dX8_read_37 : decode cX8_read 37 = .ok (.getfield 26, 3) := by decide +kernel
theorem dX8_read_40 : decode cX8_read 40 = .ok (.ireturn, 1) := by decide +kernel
theorem dX8_read_41 : decode cX8_read 41 = .ok (.aload_n 0, 1) := by decide +kernel
theorem dX8_read_42 : decode cX8_read 42 = .ok (.iload_n 1, 1) := by decide +kernel
theorem dX8_read_43 : decode cX8_read 43 = .ok (.invokevirtual 34, 3) := by decide +kernel
theorem dX8_read_46 : decode cX8_read 46 = .ok (.ifCond .ne 6, 3) := by decide +kernel
theorem dX8_read_49 : decode cX8_read 49 = .ok (.goto 9, 3) := by decide +kernel
theorem dX8_read_52 : decode cX8_read 52 = .ok (.iinc 1 1, 3) := by decide +kernel
theorem dX8_read_55 : decode cX8_read 55 = .ok (.goto (-40), 3) := by decide +kernel
theorem dX8_read_58 : decode cX8_read 58 = .ok (.bipush (-20), 2) := by decide +kernel
theorem dX8_read_60 : decode cX8_read 60 = .ok (.aload_n 0, 1) := by decide +kernel
theorem dX8_read_61 : decode cX8_read 61 = .ok (.getfield 27, 3) := by decide +kernel
theorem dX8_read_64 : decode cX8_read 64 = .ok (.isub, 1) := by decide +kernel
theorem dX8_read_65 : decode cX8_read 65 = .ok (.ireturn, 1) := by decide +kernel
theorem dX8_readSound_0 : decode cX8_readSound 0 = .ok (.aload_n 0, 1) := by decide +kernel
theorem dX8_readSound_1 : decode cX8_readSound 1 = .ok (.invokevirtual 30, 3) := by decide +kernel
theorem dX8_readSound_4 : decode cX8_readSound 4 = .ok (.istore_n 2, 1) := by decide +kernel
theorem dX8_readSound_5 : decode cX8_readSound 5 = .ok (.iload_n 2, 1) := by decide +kernel
theorem dX8_readSound_6 : decode cX8_readSound 6 = .ok (.bipush 45, 2) := by decide +kernel
theorem dX8_readSound_8 : decode cX8_readSound 8 = .ok (.if_icmp .eq 17, 3) := by decide +kernel
theorem dX8_readSound_11 : decode cX8_readSound 11 = .ok (.iload_n 2, 1) := by decide +kernel
theorem dX8_readSound_12 : decode cX8_readSound 12 = .ok (.bipush 97, 2) := by decide +kernel
theorem dX8_readSound_14 : decode cX8_readSound 14 = .ok (.if_icmp .lt 9, 3) := by decide +kernel
theorem dX8_readSound_17 : decode cX8_readSound 17 = .ok (.iload_n 2, 1) := by decide +kernel
theorem dX8_readSound_18 : decode cX8_readSound 18 = .ok (.bipush 103, 2) := by decide +kernel
theorem dX8_readSound_20 : decode cX8_readSound 20 = .ok (.if_icmp .le 5, 3) := by decide +kernel
theorem dX8_readSound_23 : decode cX8_readSound 23 = .ok (.iconst 0, 1) := by decide +kernel
theorem dX8_readSound_24 : decode cX8_readSound 24 = .ok (.ireturn, 1) := by decide +kernel
theorem dX8_readSound_25 : decode cX8_readSound 25 = .ok (.aload_n 0, 1) := by decide +kernel
theorem dX8_readSound_26 : decode cX8_readSound 26 = .ok (.getfield 27, 3) := by decide +kernel
theorem dX8_readSound_29 : decode cX8_readSound 29 = .ok (.istore_n 3, 1) := by decide +kernel
theorem dX8_readSound_30 : decode cX8_readSound 30 = .ok (.aload_n 0, 1) := by decide +kernel
theorem dX8_readSound_31 : decode cX8_readSound 31 = .ok (.dup, 1) := by decide +kernel
theorem dX8_readSound_32 : decode cX8_readSound 32 = .ok (.getfield 27, 3) := by decide +kernel
theorem dX8_readSound_35 : decode cX8_readSound 35 = .ok (.iconst 1, 1) := by decide +kernel
theorem dX8_readSound_36 : decode cX8_readSound 36 = .ok (.iadd, 1) := by decide +kernel
theorem dX8_readSound_37 : decode cX8_readSound 37 = .ok (.putfield 27, 3) := by decide +kernel
theorem dX8_readSound_40 : decode cX8_readSound 40 = .ok (.iconst 1, 1) := by decide +kernel
theorem dX8_readSound_41 : decode cX8_readSound 41 = .ok (.istore 4, 2) := by decide +kernel
theorem dX8_readSound_43 : decode cX8_readSound 43 = .ok (.aload_n 0, 1) := by decide +kernel
theorem dX8_readSound_44 : decode cX8_readSound 44 = .ok (.invokevirtual 30, 3) := by decide +kernel
theorem dX8_readSound_47 : decode cX8_readSound 47 = .ok (.istore 5, 2) := by decide +kernel
theorem dX8_readSound_49 : decode cX8_readSound 49 = .ok (.iload 5, 2) := by decide +kernel
theorem dX8_readSound_51 : decode cX8_readSound 51 = .ok (.bipush 49, 2) := by decide +kernel
theorem dX8_readSound_53 : decode cX8_readSound 53 = .ok (.if_icmp .lt 27, 3) := by decide +kernel
theorem dX8_readSound_56 : decode cX8_readSound 56 = .ok (.iload 5, 2) := by decide +kernel
theorem dX8_readSound_58 : decode cX8_readSound 58 = .ok (.bipush 57, 2) := by decide +kernel
theorem dX8_readSound_60 : decode cX8_readSound 60 = .ok (.if_icmp .gt 20, 3) := by decide +kernel
theorem dX8_readSound_63 : decode cX8_readSound 63 = .ok (.iload 5, 2) := by decide +kernel
theorem dX8_readSound_65 : decode cX8_readSound 65 = .ok (.bipush 48, 2) := by decide +kernel
theorem dX8_readSound_67 : decode cX8_readSound 67 = .ok (.isub, 1) := by decide +kernel
theorem dX8_readSound_68 : decode cX8_readSound 68 = .ok (.istore 4, 2) := by decide +kernel
theorem dX8_readSound_70 : decode cX8_readSound 70 = .ok (.aload_n 0, 1) := by decide +kernel
theorem dX8_readSound_71 : decode cX8_readSound 71 = .ok (.dup, 1) := by decide +kernel
theorem dX8_readSound_72 : decode cX8_readSound 72 = .ok (.getfield 27, 3) := by decide +kernel
theorem dX8_readSound_75 : decode cX8_readSound 75 = .ok (.iconst 1, 1) := by decide +kernel
theorem dX8_readSound_76 : decode cX8_readSound 76 = .ok (.iadd, 1) := by decide +kernel
theorem dX8_readSound_77 : decode cX8_readSound 77 = .ok (.putfield 27, 3) := by decide +kernel
theorem dX8_readSound_80 : decode cX8_readSound 80 = .ok (.iload_n 1, 1) := by decide +kernel
theorem dX8_readSound_81 : decode cX8_readSound 81 = .ok (.bipush 40, 2) := by decide +kernel
theorem dX8_readSound_83 : decode cX8_readSound 83 = .ok (.if_icmp .eq 18, 3) := by decide +kernel
theorem dX8_readSound_86 : decode cX8_readSound 86 = .ok (.aload_n 0, 1) := by decide +kernel
theorem dX8_readSound_87 : decode cX8_readSound 87 = .ok (.getfield 12, 3) := by decide +kernel
theorem dX8_readSound_90 : decode cX8_readSound 90 = .ok (.getfield 26, 3) := by decide +kernel
theorem dX8_readSound_93 : decode cX8_readSound 93 = .ok (.iload 4, 2) := by decide +kernel
theorem dX8_readSound_95 : decode cX8_readSound 95 = .ok (.iadd, 1) := by decide +kernel
theorem dX8_readSound_96 : decode cX8_readSound 96 = .ok (.bipush 64, 2) := by decide +kernel
theorem dX8_readSound_98 : decode cX8_readSound 98 = .ok (.if_icmp .le 10, 3) := by decide +kernel
theorem dX8_readSound_101 : decode cX8_readSound 101 = .ok (.aload_n 0, 1) := by decide +kernel
theorem dX8_readSound_102 : decode cX8_readSound 102 = .ok (.iload_n 3, 1) := by decide +kernel
theorem dX8_readSound_103 : decode cX8_readSound 103 = .ok (.putfield 27, 3) := by decide +kernel
theorem dX8_readSound_106 : decode cX8_readSound 106 = .ok (.iconst 0, 1) := by decide +kernel
theorem dX8_readSound_107 : decode cX8_readSound 107 = .ok (.ireturn, 1) := by decide +kernel
theorem dX8_readSound_108 : decode cX8_readSound 108 = .ok (.aload_n 0, 1) := by decide +kernel
theorem dX8_readSound_109 : decode cX8_readSound 109 = .ok (.invokevirtual 30, 3) := by decide +kernel
theorem dX8_readSound_112 : decode cX8_readSound 112 = .ok (.bipush 46, 2) := by decide +kernel
theorem dX8_readSound_114 : decode cX8_readSound 114 = .ok (.if_icmp .ne 7, 3) := by decide +kernel
theorem dX8_readSound_117 : decode cX8_readSound 117 = .ok (.iconst 1, 1) := by decide +kernel
theorem dX8_readSound_118 : decode cX8_readSound 118 = .ok (.goto 4, 3) := by decide +kernel
theorem dX8_readSound_121 : decode cX8_readSound 121 = .ok (.iconst 0, 1) := by decide +kernel
theorem dX8_readSound_122 : decode cX8_readSound 122 = .ok (.istore 6, 2) := by decide +kernel
theorem dX8_readSound_124 : decode cX8_readSound 124 = .ok (.iload 6, 2) := by decide +kernel
theorem dX8_readSound_126 : decode cX8_readSound 126 = .ok (.ifCond .eq 13, 3) := by decide +kernel
theorem dX8_readSound_129 : decode cX8_readSound 129 = .ok (.aload_n 0, 1) := by decide +kernel
theorem dX8_readSound_130 : decode cX8_readSound 130 = .ok (.dup, 1) := by decide +kernel
theorem dX8_readSound_131 : decode cX8_readSound 131 = .ok (.getfield 27, 3) := by decide +kernel
theorem dX8_readSound_134 : decode cX8_readSound 134 = .ok (.iconst 1, 1) := by decide +kernel
theorem dX8_readSound_135 : decode cX8_readSound 135 = .ok (.iadd, 1) := by decide +kernel
theorem dX8_readSound_136 : decode cX8_readSound 136 = .ok (.putfield 27, 3) := by decide +kernel
theorem dX8_readSound_139 : decode cX8_readSound 139 = .ok (.aload_n 0, 1) := by decide +kernel
theorem dX8_readSound_140 : decode cX8_readSound 140 = .ok (.getfield 12, 3) := by decide +kernel
theorem dX8_readSound_143 : decode cX8_readSound 143 = .ok (.iload_n 2, 1) := by decide +kernel
theorem dX8_readSound_144 : decode cX8_readSound 144 = .ok (.bipush 45, 2) := by decide +kernel
theorem dX8_readSound_146 : decode cX8_readSound 146 = .ok (.if_icmp .ne 7, 3) := by decide +kernel
theorem dX8_readSound_149 : decode cX8_readSound 149 = .ok (.iconst 0, 1) := by decide +kernel
theorem dX8_readSound_150 : decode cX8_readSound 150 = .ok (.goto 9, 3) := by decide +kernel
theorem dX8_readSound_153 : decode cX8_readSound 153 = .ok (.iload_n 2, 1) := by decide +kernel
theorem dX8_readSound_154 : decode cX8_readSound 154 = .ok (.bipush 97, 2) := by decide +kernel
theorem dX8_readSound_156 : decode cX8_readSound 156 = .ok (.isub, 1) := by decide +kernel
theorem dX8_readSound_157 : decode cX8_readSound 157 = .ok (.iconst 1, 1) := by decide +kernel
theorem dX8_readSound_158 : decode cX8_readSound 158 = .ok (.iadd, 1) := by decide +kernel
theorem dX8_readSound_159 : decode cX8_readSound 159 = .ok (.iload 4, 2) := by decide +kernel
theorem dX8_readSound_161 : decode cX8_readSound 161 = .ok (.iload 6, 2) := by decide +kernel
theorem dX8_readSound_163 : decode cX8_readSound 163 = .ok (.invokevirtual 38, 3) := by decide +kernel
theorem dX8_readSound_166 : decode cX8_readSound 166 = .ok (.iconst 1, 1) := by decide +kernel
theorem dX8_readSound_167 : decode cX8_readSound 167 = .ok (.ireturn, 1) := by decide +kernel
theorem dX8_peek_0 : decode cX8_peek 0 = .ok (.aload_n 0, 1) := by decide +kernel
theorem dX8_peek_1 : decode cX8_peek 1 = .ok (.getfield 27, 3) := by decide +kernel
theorem dX8_peek_4 : decode cX8_peek 4 = .ok (.aload_n 0, 1) := by decide +kernel
theorem dX8_peek_5 : decode cX8_peek 5 = .ok (.getfield 22, 3) := by decide +kernel
theorem dX8_peek_8 : decode cX8_peek 8 = .ok (.if_icmp .ge 30, 3) := by decide +kernel
theorem dX8_peek_11 : decode cX8_peek 11 = .ok (.aload_n 0, 1) := by decide +kernel
theorem dX8_peek_12 : decode cX8_peek 12 = .ok (.getfield 18, 3) := by decide +kernel
theorem dX8_peek_15 : decode cX8_peek 15 = .ok (.aload_n 0, 1) := by decide +kernel
theorem dX8_peek_16 : decode cX8_peek 16 = .ok (.getfield 27, 3) := by decide +kernel
theorem dX8_peek_19 : decode cX8_peek 19 = .ok (.baload, 1) := by decide +kernel
theorem dX8_peek_20 : decode cX8_peek 20 = .ok (.bipush 32, 2) := by decide +kernel
theorem dX8_peek_22 : decode cX8_peek 22 = .ok (.if_icmp .ne 16, 3) := by decide +kernel
theorem dX8_peek_25 : decode cX8_peek 25 = .ok (.aload_n 0, 1) := by decide +kernel
theorem dX8_peek_26 : decode cX8_peek 26 = .ok (.dup, 1) := by decide +kernel
theorem dX8_peek_27 : decode cX8_peek 27 = .ok (.getfield 27, 3) := by decide +kernel
theorem dX8_peek_30 : decode cX8_peek 30 = .ok (.iconst 1, 1) := by decide +kernel
theorem dX8_peek_31 : decode cX8_peek 31 = .ok (.iadd, 1) := by decide +kernel
theorem dX8_peek_32 : decode cX8_peek 32 = .ok (.putfield 27, 3) := by decide +kernel
theorem dX8_peek_35 : decode cX8_peek 35 = .ok (.goto (-35), 3) := by decide +kernel
theorem dX8_peek_38 : decode cX8_peek 38 = .ok (.aload_n 0, 1) := by decide +kernel
theorem dX8_peek_39 : decode cX8_peek 39 = .ok (.getfield 27, 3) := by decide +kernel
theorem dX8_peek_42 : decode cX8_peek 42 = .ok (.aload_n 0, 1) := by decide +kernel
theorem dX8_peek_43 : decode cX8_peek 43 = .ok (.getfield 22, 3) := by decide +kernel
theorem dX8_peek_46 : decode cX8_peek 46 = .ok (.if_icmp .ge 15, 3) := by decide +kernel
theorem dX8_peek_49 : decode cX8_peek 49 = .ok (.aload_n 0, 1) := by decide +kernel
theorem dX8_peek_50 : decode cX8_peek 50 = .ok (.getfield 18, 3) := by decide +kernel
theorem dX8_peek_53 : decode cX8_peek 53 = .ok (.aload_n 0, 1) := by decide +kernel
theorem dX8_peek_54 : decode cX8_peek 54 = .ok (.getfield 27, 3) := by decide +kernel
theorem dX8_peek_57 : decode cX8_peek 57 = .ok (.baload, 1) := by decide +kernel
theorem dX8_peek_58 : decode cX8_peek 58 = .ok (.goto 4, 3) := by decide +kernel
theorem dX8_peek_61 : decode cX8_peek 61 = .ok (.iconst (-1), 1) := by decide +kernel
theorem dX8_peek_62 : decode cX8_peek 62 = .ok (.ireturn, 1) := by decide +kernel
theorem dX9_init_0 : decode cX9_init 0 = .ok (.aload_n 0, 1) := by decide +kernel
theorem dX9_init_1 : decode cX9_init 1 = .ok (.invokespecial 3, 3) := by decide +kernel
theorem dX9_init_4 : decode cX9_init 4 = .ok (.aload_n 0, 1) := by decide +kernel
theorem dX9_init_5 : decode cX9_init 5 = .ok (.bipush 8, 2) := by decide +kernel
theorem dX9_init_7 : decode cX9_init 7 = .ok (.newarray .int, 2) := by decide +kernel
theorem dX9_init_9 : decode cX9_init 9 = .ok (.putfield 9, 3) := by decide +kernel
theorem dX9_init_12 : decode cX9_init 12 = .ok (.aload_n 0, 1) := by decide +kernel
theorem dX9_init_13 : decode cX9_init 13 = .ok (.bipush 8, 2) := by decide +kernel
theorem dX9_init_15 : decode cX9_init 15 = .ok (.newarray .int, 2) := by decide +kernel
theorem dX9_init_17 : decode cX9_init 17 = .ok (.putfield 15, 3) := by decide +kernel
theorem dX9_init_20 : decode cX9_init 20 = .ok (.return_, 1) := by decide +kernel
theorem dX9_tellFor_0 : decode cX9_tellFor 0 = .ok (.iconst 0, 1) := by decide +kernel
theorem dX9_tellFor_1 : decode cX9_tellFor 1 = .ok (.istore_n 3, 1) := by decide +kernel
theorem dX9_tellFor_2 : decode cX9_tellFor 2 = .ok (.iload_n 3, 1) := by decide +kernel
theorem dX9_tellFor_3 : decode cX9_tellFor 3 = .ok (.aload_n 1, 1) := by decide +kernel
theorem dX9_tellFor_4 : decode cX9_tellFor 4 = .ok (.getfield 18, 3) := by decide +kernel
theorem dX9_tellFor_7 : decode cX9_tellFor 7 = .ok (.if_icmp .ge 18, 3) := by decide +kernel
theorem dX9_tellFor_10 : decode cX9_tellFor 10 = .ok (.aload_n 0, 1) := by decide +kernel
theorem dX9_tellFor_11 : decode cX9_tellFor 11 = .ok (.getfield 9, 3) := by decide +kernel
theorem dX9_tellFor_14 : decode cX9_tellFor 14 = .ok (.iload_n 3, 1) := by decide +kernel
theorem dX9_tellFor_15 : decode cX9_tellFor 15 = .ok (.iconst 1, 1) := by decide +kernel
theorem dX9_tellFor_16 : decode cX9_tellFor 16 = .ok (.iload_n 3, 1) := by decide +kernel
theorem dX9_tellFor_17 : decode cX9_tellFor 17 = .ok (.ishl, 1) := by decide +kernel
theorem dX9_tellFor_18 : decode cX9_tellFor 18 = .ok (.iastore, 1) := by decide +kernel
theorem dX9_tellFor_19 : decode cX9_tellFor 19 = .ok (.iinc 3 1, 3) := by decide +kernel
theorem dX9_tellFor_22 : decode cX9_tellFor 22 = .ok (.goto (-20), 3) := by decide +kernel
theorem dX9_tellFor_25 : decode cX9_tellFor 25 = .ok (.iconst 1, 1) := by decide +kernel
theorem dX9_tellFor_26 : decode cX9_tellFor 26 = .ok (.istore_n 3, 1) := by decide +kernel
theorem dX9_tellFor_27 : decode cX9_tellFor 27 = .ok (.iload_n 3, 1) := by decide +kernel
theorem dX9_tellFor_28 : decode cX9_tellFor 28 = .ok (.iload_n 2, 1) := by decide +kernel
theorem dX9_tellFor_29 : decode cX9_tellFor 29 = .ok (.if_icmp .gt 70, 3) := by decide +kernel
theorem dX9_tellFor_32 : decode cX9_tellFor 32 = .ok (.aload_n 0, 1) := by decide +kernel
theorem dX9_tellFor_33 : decode cX9_tellFor 33 = .ok (.getfield 15, 3) := by decide +kernel
theorem dX9_tellFor_36 : decode cX9_tellFor 36 = .ok (.astore 4, 2) := by decide +kernel
theorem dX9_tellFor_38 : decode cX9_tellFor 38 = .ok (.aload_n 0, 1) := by decide +kernel
theorem dX9_tellFor_39 : decode cX9_tellFor 39 = .ok (.aload_n 0, 1) := by decide +kernel
theorem dX9_tellFor_40 : decode cX9_tellFor 40 = .ok (.getfield 9, 3) := by decide +kernel
theorem dX9_tellFor_43 : decode cX9_tellFor 43 = .ok (.putfield 15, 3) := by decide +kernel
theorem dX9_tellFor_46 : decode cX9_tellFor 46 = .ok (.aload_n 0, 1) := by decide +kernel
theorem dX9_tellFor_47 : decode cX9_tellFor 47 = .ok (.aload 4, 2) := by decide +kernel
theorem dX9_tellFor_49 : decode cX9_tellFor 49 = .ok (.putfield 9, 3) := by decide +kernel
theorem dX9_tellFor_52 : decode cX9_tellFor 52 = .ok (.iconst 0, 1) := by decide +kernel
theorem dX9_tellFor_53 : decode cX9_tellFor 53 = .ok (.istore 5, 2) := by decide +kernel
theorem dX9_tellFor_55 : decode cX9_tellFor 55 = .ok (.iload 5, 2) := by decide +kernel
theorem dX9_tellFor_57 : decode cX9_tellFor 57 = .ok (.aload_n 1, 1) := by decide +kernel
theorem dX9_tellFor_58 : decode cX9_tellFor 58 = .ok (.getfield 18, 3) := by decide +kernel
theorem dX9_tellFor_61 : decode cX9_tellFor 61 = .ok (.if_icmp .ge 32, 3) := by decide +kernel
theorem dX9_tellFor_64 : decode cX9_tellFor 64 = .ok (.aload_n 0, 1) := by decide +kernel
theorem dX9_tellFor_65 : decode cX9_tellFor 65 = .ok (.getfield 9, 3) := by decide +kernel
theorem dX9_tellFor_68 : decode cX9_tellFor 68 = .ok (.iload 5, 2) := by decide +kernel
theorem dX9_tellFor_70 : decode cX9_tellFor 70 = .ok (.aload_n 0, 1) := by decide +kernel
theorem dX9_tellFor_71 : decode cX9_tellFor 71 = .ok (.getfield 15, 3) := by decide +kernel
theorem dX9_tellFor_74 : decode cX9_tellFor 74 = .ok (.iload 5, 2) := by decide +kernel
theorem dX9_tellFor_76 : decode cX9_tellFor 76 = .ok (.iaload, 1) := by decide +kernel
theorem dX9_tellFor_77 : decode cX9_tellFor 77 = .ok (.aload_n 0, 1) := by decide +kernel
theorem dX9_tellFor_78 : decode cX9_tellFor 78 = .ok (.aload_n 1, 1) := by decide +kernel
theorem dX9_tellFor_79 : decode cX9_tellFor 79 = .ok (.iload 5, 2) := by decide +kernel
theorem dX9_tellFor_81 : decode cX9_tellFor 81 = .ok (.iload_n 3, 1) := by decide +kernel
theorem dX9_tellFor_82 : decode cX9_tellFor 82 = .ok (.invokevirtual 24, 3) := by decide +kernel
theorem dX9_tellFor_85 : decode cX9_tellFor 85 = .ok (.ior, 1) := by decide +kernel
theorem dX9_tellFor_86 : decode cX9_tellFor 86 = .ok (.iastore, 1) := by decide +kernel
theorem dX9_tellFor_87 : decode cX9_tellFor 87 = .ok (.iinc 5 1, 3) := by decide +kernel
theorem dX9_tellFor_90 : decode cX9_tellFor 90 = .ok (.goto (-35), 3) := by decide +kernel
theorem dX9_tellFor_93 : decode cX9_tellFor 93 = .ok (.iinc 3 1, 3) := by decide +kernel
theorem dX9_tellFor_96 : decode cX9_tellFor 96 = .ok (.goto (-69), 3) := by decide +kernel
theorem dX9_tellFor_99 : decode cX9_tellFor 99 = .ok (.return_, 1) := by decide +kernel
theorem dX9_toldTo_0 : decode cX9_toldTo 0 = .ok (.iconst 0, 1) := by decide +kernel
theorem dX9_toldTo_1 : decode cX9_toldTo 1 = .ok (.istore 4, 2) := by decide +kernel
theorem dX9_toldTo_3 : decode cX9_toldTo 3 = .ok (.iconst 0, 1) := by decide +kernel
theorem dX9_toldTo_4 : decode cX9_toldTo 4 = .ok (.istore 5, 2) := by decide +kernel
theorem dX9_toldTo_6 : decode cX9_toldTo 6 = .ok (.iload 5, 2) := by decide +kernel
theorem dX9_toldTo_8 : decode cX9_toldTo 8 = .ok (.aload_n 1, 1) := by decide +kernel
theorem dX9_toldTo_9 : decode cX9_toldTo 9 = .ok (.getfield 18, 3) := by decide +kernel
theorem dX9_toldTo_12 : decode cX9_toldTo 12 = .ok (.if_icmp .ge 71, 3) := by decide +kernel
theorem dX9_toldTo_15 : decode cX9_toldTo 15 = .ok (.aload_n 1, 1) := by decide +kernel
theorem dX9_toldTo_16 : decode cX9_toldTo 16 = .ok (.iload_n 2, 1) := by decide +kernel
theorem dX9_toldTo_17 : decode cX9_toldTo 17 = .ok (.invokevirtual 28, 3) := by decide +kernel
theorem dX9_toldTo_20 : decode cX9_toldTo 20 = .ok (.ifCond .ne 63, 3) := by decide +kernel
theorem dX9_toldTo_23 : decode cX9_toldTo 23 = .ok (.aload_n 1, 1) := by decide +kernel
theorem dX9_toldTo_24 : decode cX9_toldTo 24 = .ok (.iload 5, 2) := by decide +kernel
theorem dX9_toldTo_26 : decode cX9_toldTo 26 = .ok (.iload_n 2, 1) := by decide +kernel
theorem dX9_toldTo_27 : decode cX9_toldTo 27 = .ok (.invokevirtual 32, 3) := by decide +kernel
theorem dX9_toldTo_30 : decode cX9_toldTo 30 = .ok (.ifCond .le 18, 3) := by decide +kernel
theorem dX9_toldTo_33 : decode cX9_toldTo 33 = .ok (.aload_n 1, 1) := by decide +kernel
theorem dX9_toldTo_34 : decode cX9_toldTo 34 = .ok (.iload_n 3, 1) := by decide +kernel
theorem dX9_toldTo_35 : decode cX9_toldTo 35 = .ok (.iload 5, 2) := by decide +kernel
theorem dX9_toldTo_37 : decode cX9_toldTo 37 = .ok (.iload_n 2, 1) := by decide +kernel
theorem dX9_toldTo_38 : decode cX9_toldTo 38 = .ok (.invokevirtual 36, 3) := by decide +kernel
theorem dX9_toldTo_41 : decode cX9_toldTo 41 = .ok (.ifCond .ne 7, 3) := by decide +kernel
theorem dX9_toldTo_44 : decode cX9_toldTo 44 = .ok (.iconst 1, 1) := by decide +kernel
theorem dX9_toldTo_45 : decode cX9_toldTo 45 = .ok (.goto 4, 3) := by decide +kernel
theorem dX9_toldTo_48 : decode cX9_toldTo 48 = .ok (.iconst 0, 1) := by decide +kernel
theorem dX9_toldTo_49 : decode cX9_toldTo 49 = .ok (.istore 6, 2) := by decide +kernel
theorem dX9_toldTo_51 : decode cX9_toldTo 51 = .ok (.iload 6, 2) := by decide +kernel
theorem dX9_toldTo_53 : decode cX9_toldTo 53 = .ok (.ifCond .eq 24, 3) := by decide +kernel
theorem dX9_toldTo_56 : decode cX9_toldTo 56 = .ok (.aload_n 1, 1) := by decide +kernel
theorem dX9_toldTo_57 : decode cX9_toldTo 57 = .ok (.iload 5, 2) := by decide +kernel
theorem dX9_toldTo_59 : decode cX9_toldTo 59 = .ok (.invokevirtual 28, 3) := by decide +kernel
theorem dX9_toldTo_62 : decode cX9_toldTo 62 = .ok (.ifCond .ne 15, 3) := by decide +kernel
theorem dX9_toldTo_65 : decode cX9_toldTo 65 = .ok (.iload 4, 2) := by decide +kernel
theorem dX9_toldTo_67 : decode cX9_toldTo 67 = .ok (.aload_n 0, 1) := by decide +kernel
theorem dX9_toldTo_68 : decode cX9_toldTo 68 = .ok (.getfield 15, 3) := by decide +kernel
theorem dX9_toldTo_71 : decode cX9_toldTo 71 = .ok (.iload 5, 2) := by decide +kernel
theorem dX9_toldTo_73 : decode cX9_toldTo 73 = .ok (.iaload, 1) := by decide +kernel
theorem dX9_toldTo_74 : decode cX9_toldTo 74 = .ok (.ior, 1) := by decide +kernel
theorem dX9_toldTo_75 : decode cX9_toldTo 75 = .ok (.istore 4, 2) := by decide +kernel
theorem dX9_toldTo_77 : decode cX9_toldTo 77 = .ok (.iinc 5 1, 3) := by decide +kernel
theorem dX9_toldTo_80 : decode cX9_toldTo 80 = .ok (.goto (-74), 3) := by decide +kernel
theorem dX9_toldTo_83 : decode cX9_toldTo 83 = .ok (.iload 4, 2) := by decide +kernel
theorem dX9_toldTo_85 : decode cX9_toldTo 85 = .ok (.ireturn, 1) := by decide +kernel
theorem dX9_knownTo_0 : decode cX9_knownTo 0 = .ok (.aload_n 0, 1) := by decide +kernel
theorem dX9_knownTo_1 : decode cX9_knownTo 1 = .ok (.getfield 9, 3) := by decide +kernel
theorem dX9_knownTo_4 : decode cX9_knownTo 4 = .ok (.iload_n 1, 1) := by decide +kernel
theorem dX9_knownTo_5 : decode cX9_knownTo 5 = .ok (.iaload, 1) := by decide +kernel
theorem dX9_knownTo_6 : decode cX9_knownTo 6 = .ok (.ireturn, 1) := by decide +kernel
theorem dJ6_bitCount_0f7a4_0 : decode cJ6_bitCount_0f7a4 0 = .ok (.iload_n 0, 1) := by decide +kernel
theorem dJ6_bitCount_0f7a4_1 : decode cJ6_bitCount_0f7a4 1 = .ok (.iload_n 0, 1) := by decide +kernel
theorem dJ6_bitCount_0f7a4_2 : decode cJ6_bitCount_0f7a4 2 = .ok (.iconst 1, 1) := by decide +kernel
theorem dJ6_bitCount_0f7a4_3 : decode cJ6_bitCount_0f7a4 3 = .ok (.iushr, 1) := by decide +kernel
theorem dJ6_bitCount_0f7a4_4 : decode cJ6_bitCount_0f7a4 4 = .ok (.ldc_w 265, 3) := by decide +kernel
theorem dJ6_bitCount_0f7a4_7 : decode cJ6_bitCount_0f7a4 7 = .ok (.iand, 1) := by decide +kernel
theorem dJ6_bitCount_0f7a4_8 : decode cJ6_bitCount_0f7a4 8 = .ok (.isub, 1) := by decide +kernel
theorem dJ6_bitCount_0f7a4_9 : decode cJ6_bitCount_0f7a4 9 = .ok (.istore_n 0, 1) := by decide +kernel
theorem dJ6_bitCount_0f7a4_10 : decode cJ6_bitCount_0f7a4 10 = .ok (.iload_n 0, 1) := by decide +kernel
theorem dJ6_bitCount_0f7a4_11 : decode cJ6_bitCount_0f7a4 11 = .ok (.ldc_w 266, 3) := by decide +kernel
theorem dJ6_bitCount_0f7a4_14 : decode cJ6_bitCount_0f7a4 14 = .ok (.iand, 1) := by decide +kernel
theorem dJ6_bitCount_0f7a4_15 : decode cJ6_bitCount_0f7a4 15 = .ok (.iload_n 0, 1) := by decide +kernel
theorem dJ6_bitCount_0f7a4_16 : decode cJ6_bitCount_0f7a4 16 = .ok (.iconst 2, 1) := by decide +kernel
theorem dJ6_bitCount_0f7a4_17 : decode cJ6_bitCount_0f7a4 17 = .ok (.iushr, 1) := by decide +kernel
theorem dJ6_bitCount_0f7a4_18 : decode cJ6_bitCount_0f7a4 18 = .ok (.ldc_w 266, 3) := by decide +kernel
theorem dJ6_bitCount_0f7a4_21 : decode cJ6_bitCount_0f7a4 21 = .ok (.iand, 1) := by decide +kernel
theorem dJ6_bitCount_0f7a4_22 : decode cJ6_bitCount_0f7a4 22 = .ok (.iadd, 1) := by decide +kernel
theorem dJ6_bitCount_0f7a4_23 : decode cJ6_bitCount_0f7a4 23 = .ok (.istore_n 0, 1) := by decide +kernel
theorem dJ6_bitCount_0f7a4_24 : decode cJ6_bitCount_0f7a4 24 = .ok (.iload_n 0, 1) := by decide +kernel
theorem dJ6_bitCount_0f7a4_25 : decode cJ6_bitCount_0f7a4 25 = .ok (.iload_n 0, 1) := by decide +kernel
theorem dJ6_bitCount_0f7a4_26 : decode cJ6_bitCount_0f7a4 26 = .ok (.iconst 4, 1) := by decide +kernel
theorem dJ6_bitCount_0f7a4_27 : decode cJ6_bitCount_0f7a4 27 = .ok (.iushr, 1) := by decide +kernel
theorem dJ6_bitCount_0f7a4_28 : decode cJ6_bitCount_0f7a4 28 = .ok (.iadd, 1) := by decide +kernel
theorem dJ6_bitCount_0f7a4_29 : decode cJ6_bitCount_0f7a4 29 = .ok (.ldc_w 267, 3) := by decide +kernel
theorem dJ6_bitCount_0f7a4_32 : decode cJ6_bitCount_0f7a4 32 = .ok (.iand, 1) := by decide +kernel
theorem dJ6_bitCount_0f7a4_33 : decode cJ6_bitCount_0f7a4 33 = .ok (.istore_n 0, 1) := by decide +kernel
theorem dJ6_bitCount_0f7a4_34 : decode cJ6_bitCount_0f7a4 34 = .ok (.iload_n 0, 1) := by decide +kernel
theorem dJ6_bitCount_0f7a4_35 : decode cJ6_bitCount_0f7a4 35 = .ok (.iload_n 0, 1) := by decide +kernel
theorem dJ6_bitCount_0f7a4_36 : decode cJ6_bitCount_0f7a4 36 = .ok (.bipush 8, 2) := by decide +kernel
theorem dJ6_bitCount_0f7a4_38 : decode cJ6_bitCount_0f7a4 38 = .ok (.iushr, 1) := by decide +kernel
theorem dJ6_bitCount_0f7a4_39 : decode cJ6_bitCount_0f7a4 39 = .ok (.iadd, 1) := by decide +kernel
theorem dJ6_bitCount_0f7a4_40 : decode cJ6_bitCount_0f7a4 40 = .ok (.istore_n 0, 1) := by decide +kernel
theorem dJ6_bitCount_0f7a4_41 : decode cJ6_bitCount_0f7a4 41 = .ok (.iload_n 0, 1) := by decide +kernel
theorem dJ6_bitCount_0f7a4_42 : decode cJ6_bitCount_0f7a4 42 = .ok (.iload_n 0, 1) := by decide +kernel
theorem dJ6_bitCount_0f7a4_43 : decode cJ6_bitCount_0f7a4 43 = .ok (.bipush 16, 2) := by decide +kernel
theorem dJ6_bitCount_0f7a4_45 : decode cJ6_bitCount_0f7a4 45 = .ok (.iushr, 1) := by decide +kernel
theorem dJ6_bitCount_0f7a4_46 : decode cJ6_bitCount_0f7a4 46 = .ok (.iadd, 1) := by decide +kernel
theorem dJ6_bitCount_0f7a4_47 : decode cJ6_bitCount_0f7a4 47 = .ok (.istore_n 0, 1) := by decide +kernel
theorem dJ6_bitCount_0f7a4_48 : decode cJ6_bitCount_0f7a4 48 = .ok (.iload_n 0, 1) := by decide +kernel
theorem dJ6_bitCount_0f7a4_49 : decode cJ6_bitCount_0f7a4 49 = .ok (.bipush 63, 2) := by decide +kernel
theorem dJ6_bitCount_0f7a4_51 : decode cJ6_bitCount_0f7a4 51 = .ok (.iand, 1) := by decide +kernel
theorem dJ6_bitCount_0f7a4_52 : decode cJ6_bitCount_0f7a4 52 = .ok (.ireturn, 1) := by decide +kernel
theorem dJ7_fill_53178_0 : decode cJ7_fill_53178 0 = .ok (.iconst 0, 1) := by decide +kernel
theorem dJ7_fill_53178_1 : decode cJ7_fill_53178 1 = .ok (.istore_n 2, 1) := by decide +kernel
theorem dJ7_fill_53178_2 : decode cJ7_fill_53178 2 = .ok (.aload_n 0, 1) := by decide +kernel
theorem dJ7_fill_53178_3 : decode cJ7_fill_53178 3 = .ok (.arraylength, 1) := by decide +kernel
theorem dJ7_fill_53178_4 : decode cJ7_fill_53178 4 = .ok (.istore_n 3, 1) := by decide +kernel
theorem dJ7_fill_53178_5 : decode cJ7_fill_53178 5 = .ok (.iload_n 2, 1) := by decide +kernel
theorem dJ7_fill_53178_6 : decode cJ7_fill_53178 6 = .ok (.iload_n 3, 1) := by decide +kernel
theorem dJ7_fill_53178_7 : decode cJ7_fill_53178 7 = .ok (.if_icmp .ge 13, 3) := by decide +kernel
theorem dJ7_fill_53178_10 : decode cJ7_fill_53178 10 = .ok (.aload_n 0, 1) := by decide +kernel
theorem dJ7_fill_53178_11 : decode cJ7_fill_53178 11 = .ok (.iload_n 2, 1) := by decide +kernel
theorem dJ7_fill_53178_12 : decode cJ7_fill_53178 12 = .ok (.iload_n 1, 1) := by decide +kernel
theorem dJ7_fill_53178_13 : decode cJ7_fill_53178 13 = .ok (.iastore, 1) := by decide +kernel
theorem dJ7_fill_53178_14 : decode cJ7_fill_53178 14 = .ok (.iinc 2 1, 3) := by decide +kernel
theorem dJ7_fill_53178_17 : decode cJ7_fill_53178 17 = .ok (.goto (-12), 3) := by decide +kernel
theorem dJ7_fill_53178_20 : decode cJ7_fill_53178 20 = .ok (.return_, 1) := by decide +kernel
