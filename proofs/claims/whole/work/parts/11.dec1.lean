theorem dX10_init_0 : decode cX10_init 0 = .ok (.aload_n 0, 1) := by decide +kernel
theorem dX10_init_1 : decode cX10_init 1 = .ok (.invokespecial 1, 3) := by decide +kernel
theorem dX10_init_4 : decode cX10_init 4 = .ok (.aload_n 0, 1) := by decide +kernel
theorem dX10_init_5 : decode cX10_init 5 = .ok (.new 7, 3) := by decide +kernel
theorem dX10_init_8 : decode cX10_init 8 = .ok (.dup, 1) := by decide +kernel
theorem dX10_init_9 : decode cX10_init 9 = .ok (.invokespecial 9, 3) := by decide +kernel
theorem dX10_init_12 : decode cX10_init 12 = .ok (.putfield 10, 3) := by decide +kernel
theorem dX10_init_15 : decode cX10_init 15 = .ok (.aload_n 0, 1) := by decide +kernel
theorem dX10_init_16 : decode cX10_init 16 = .ok (.iconst 2, 1) := by decide +kernel
theorem dX10_init_17 : decode cX10_init 17 = .ok (.anewarray 7, 3) := by decide +kernel
theorem dX10_init_20 : decode cX10_init 20 = .ok (.putfield 16, 3) := by decide +kernel
theorem dX10_init_23 : decode cX10_init 23 = .ok (.aload_n 0, 1) := by decide +kernel
theorem dX10_init_24 : decode cX10_init 24 = .ok (.new 20, 3) := by decide +kernel
theorem dX10_init_27 : decode cX10_init 27 = .ok (.dup, 1) := by decide +kernel
theorem dX10_init_28 : decode cX10_init 28 = .ok (.invokespecial 22, 3) := by decide +kernel
theorem dX10_init_31 : decode cX10_init 31 = .ok (.putfield 23, 3) := by decide +kernel
theorem dX10_init_34 : decode cX10_init 34 = .ok (.aload_n 0, 1) := by decide +kernel
theorem dX10_init_35 : decode cX10_init 35 = .ok (.iconst 4, 1) := by decide +kernel
theorem dX10_init_36 : decode cX10_init 36 = .ok (.anewarray 27, 3) := by decide +kernel
theorem dX10_init_39 : decode cX10_init 39 = .ok (.dup, 1) := by decide +kernel
theorem dX10_init_40 : decode cX10_init 40 = .ok (.iconst 0, 1) := by decide +kernel
theorem dX10_init_41 : decode cX10_init 41 = .ok (.new 27, 3) := by decide +kernel
theorem dX10_init_44 : decode cX10_init 44 = .ok (.dup, 1) := by decide +kernel
theorem dX10_init_45 : decode cX10_init 45 = .ok (.invokespecial 29, 3) := by decide +kernel
theorem dX10_init_48 : decode cX10_init 48 = .ok (.aastore, 1) := by decide +kernel
theorem dX10_init_49 : decode cX10_init 49 = .ok (.dup, 1) := by decide +kernel
theorem dX10_init_50 : decode cX10_init 50 = .ok (.iconst 1, 1) := by decide +kernel
theorem dX10_init_51 : decode cX10_init 51 = .ok (.new 27, 3) := by decide +kernel
theorem dX10_init_54 : decode cX10_init 54 = .ok (.dup, 1) := by decide +kernel
theorem dX10_init_55 : decode cX10_init 55 = .ok (.invokespecial 29, 3) := by decide +kernel
theorem dX10_init_58 : decode cX10_init 58 = .ok (.aastore, 1) := by decide +kernel
theorem dX10_init_59 : decode cX10_init 59 = .ok (.dup, 1) := by decide +kernel
theorem dX10_init_60 : decode cX10_init 60 = .ok (.iconst 2, 1) := by decide +kernel
theorem dX10_init_61 : decode cX10_init 61 = .ok (.new 27, 3) := by decide +kernel
theorem dX10_init_64 : decode cX10_init 64 = .ok (.dup, 1) := by decide +kernel
theorem dX10_init_65 : decode cX10_init 65 = .ok (.invokespecial 29, 3) := by decide +kernel
theorem dX10_init_68 : decode cX10_init 68 = .ok (.aastore, 1) := by decide +kernel
theorem dX10_init_69 : decode cX10_init 69 = .ok (.dup, 1) := by decide +kernel
theorem dX10_init_70 : decode cX10_init 70 = .ok (.iconst 3, 1) := by decide +kernel
theorem dX10_init_71 : decode cX10_init 71 = .ok (.new 27, 3) := by decide +kernel
theorem dX10_init_74 : decode cX10_init 74 = .ok (.dup, 1) := by decide +kernel
theorem dX10_init_75 : decode cX10_init 75 = .ok (.invokespecial 29, 3) := by decide +kernel
theorem dX10_init_78 : decode cX10_init 78 = .ok (.aastore, 1) := by decide +kernel
theorem dX10_init_79 : decode cX10_init 79 = .ok (.putfield 30, 3) := by decide +kernel
theorem dX10_init_82 : decode cX10_init 82 = .ok (.aload_n 0, 1) := by decide +kernel
theorem dX10_init_83 : decode cX10_init 83 = .ok (.new 34, 3) := by decide +kernel
theorem dX10_init_86 : decode cX10_init 86 = .ok (.dup, 1) := by decide +kernel
theorem dX10_init_87 : decode cX10_init 87 = .ok (.invokespecial 36, 3) := by decide +kernel
theorem dX10_init_90 : decode cX10_init 90 = .ok (.putfield 37, 3) := by decide +kernel
theorem dX10_init_93 : decode cX10_init 93 = .ok (.aload_n 0, 1) := by decide +kernel
theorem dX10_init_94 : decode cX10_init 94 = .ok (.new 41, 3) := by decide +kernel
theorem dX10_init_97 : decode cX10_init 97 = .ok (.dup, 1) := by decide +kernel
theorem dX10_init_98 : decode cX10_init 98 = .ok (.invokespecial 43, 3) := by decide +kernel
theorem dX10_init_101 : decode cX10_init 101 = .ok (.putfield 44, 3) := by decide +kernel
theorem dX10_init_104 : decode cX10_init 104 = .ok (.aload_n 0, 1) := by decide +kernel
theorem dX10_init_105 : decode cX10_init 105 = .ok (.new 48, 3) := by decide +kernel
theorem dX10_init_108 : decode cX10_init 108 = .ok (.dup, 1) := by decide +kernel
theorem dX10_init_109 : decode cX10_init 109 = .ok (.invokespecial 50, 3) := by decide +kernel
theorem dX10_init_112 : decode cX10_init 112 = .ok (.putfield 51, 3) := by decide +kernel
theorem dX10_init_115 : decode cX10_init 115 = .ok (.aload_n 0, 1) := by decide +kernel
theorem dX10_init_116 : decode cX10_init 116 = .ok (.new 55, 3) := by decide +kernel
theorem dX10_init_119 : decode cX10_init 119 = .ok (.dup, 1) := by decide +kernel
theorem dX10_init_120 : decode cX10_init 120 = .ok (.invokespecial 57, 3) := by decide +kernel
theorem dX10_init_123 : decode cX10_init 123 = .ok (.putfield 58, 3) := by decide +kernel
theorem dX10_init_126 : decode cX10_init 126 = .ok (.return_, 1) := by decide +kernel
theorem dX10_room_0 : decode cX10_room 0 = .ok (.iload_n 1, 1) := by decide +kernel
theorem dX10_room_1 : decode cX10_room 1 = .ok (.ifCond .lt 8, 3) := by decide +kernel
theorem dX10_room_4 : decode cX10_room 4 = .ok (.iload_n 1, 1) := by decide +kernel
theorem dX10_room_5 : decode cX10_room 5 = .ok (.iconst 5, 1) := by decide +kernel
theorem dX10_room_6 : decode cX10_room 6 = .ok (.if_icmp .le 5, 3) := by decide +kernel
theorem dX10_room_9 : decode cX10_room 9 = .ok (.iconst (-1), 1) := by decide +kernel
theorem dX10_room_10 : decode cX10_room 10 = .ok (.ireturn, 1) := by decide +kernel
theorem dX10_room_11 : decode cX10_room 11 = .ok (.aload_n 0, 1) := by decide +kernel
theorem dX10_room_12 : decode cX10_room 12 = .ok (.getfield 10, 3) := by decide +kernel
theorem dX10_room_15 : decode cX10_room 15 = .ok (.getfield 62, 3) := by decide +kernel
theorem dX10_room_18 : decode cX10_room 18 = .ok (.getfield 66, 3) := by decide +kernel
theorem dX10_room_21 : decode cX10_room 21 = .ok (.bipush 8, 2) := by decide +kernel
theorem dX10_room_23 : decode cX10_room 23 = .ok (.if_icmp .ne 8, 3) := by decide +kernel
theorem dX10_room_26 : decode cX10_room 26 = .ok (.bipush (-3), 2) := by decide +kernel
theorem dX10_room_28 : decode cX10_room 28 = .ok (.goto 14, 3) := by decide +kernel
theorem dX10_room_31 : decode cX10_room 31 = .ok (.aload_n 0, 1) := by decide +kernel
theorem dX10_room_32 : decode cX10_room 32 = .ok (.getfield 10, 3) := by decide +kernel
theorem dX10_room_35 : decode cX10_room 35 = .ok (.getfield 62, 3) := by decide +kernel
theorem dX10_room_38 : decode cX10_room 38 = .ok (.iload_n 1, 1) := by decide +kernel
theorem dX10_room_39 : decode cX10_room 39 = .ok (.invokevirtual 72, 3) := by decide +kernel
theorem dX10_room_42 : decode cX10_room 42 = .ok (.ireturn, 1) := by decide +kernel
theorem dX10_set_0 : decode cX10_set 0 = .ok (.aload_n 0, 1) := by decide +kernel
theorem dX10_set_1 : decode cX10_set 1 = .ok (.getfield 10, 3) := by decide +kernel
theorem dX10_set_4 : decode cX10_set 4 = .ok (.getfield 62, 3) := by decide +kernel
theorem dX10_set_7 : decode cX10_set 7 = .ok (.iload_n 1, 1) := by decide +kernel
theorem dX10_set_8 : decode cX10_set 8 = .ok (.invokevirtual 76, 3) := by decide +kernel
theorem dX10_set_11 : decode cX10_set 11 = .ok (.ifCond .eq 26, 3) := by decide +kernel
theorem dX10_set_14 : decode cX10_set 14 = .ok (.iload_n 2, 1) := by decide +kernel
theorem dX10_set_15 : decode cX10_set 15 = .ok (.ifCond .lt 22, 3) := by decide +kernel
theorem dX10_set_18 : decode cX10_set 18 = .ok (.iload_n 2, 1) := by decide +kernel
theorem dX10_set_19 : decode cX10_set 19 = .ok (.bipush 6, 2) := by decide +kernel
theorem dX10_set_21 : decode cX10_set 21 = .ok (.if_icmp .ge 16, 3) := by decide +kernel
theorem dX10_set_24 : decode cX10_set 24 = .ok (.iload_n 3, 1) := by decide +kernel
theorem dX10_set_25 : decode cX10_set 25 = .ok (.ifCond .lt 12, 3) := by decide +kernel
theorem dX10_set_28 : decode cX10_set 28 = .ok (.iload_n 3, 1) := by decide +kernel
theorem dX10_set_29 : decode cX10_set 29 = .ok (.getstatic 80, 3) := by decide +kernel
theorem dX10_set_32 : decode cX10_set 32 = .ok (.iload_n 2, 1) := by decide +kernel
theorem dX10_set_33 : decode cX10_set 33 = .ok (.iaload, 1) := by decide +kernel
theorem dX10_set_34 : decode cX10_set 34 = .ok (.if_icmp .le 5, 3) := by decide +kernel
theorem dX10_set_37 : decode cX10_set 37 = .ok (.iconst (-1), 1) := by decide +kernel
theorem dX10_set_38 : decode cX10_set 38 = .ok (.ireturn, 1) := by decide +kernel
theorem dX10_set_39 : decode cX10_set 39 = .ok (.aload_n 0, 1) := by decide +kernel
theorem dX10_set_40 : decode cX10_set 40 = .ok (.getfield 10, 3) := by decide +kernel
theorem dX10_set_43 : decode cX10_set 43 = .ok (.getfield 62, 3) := by decide +kernel
theorem dX10_set_46 : decode cX10_set 46 = .ok (.iload_n 1, 1) := by decide +kernel
theorem dX10_set_47 : decode cX10_set 47 = .ok (.iload_n 2, 1) := by decide +kernel
theorem dX10_set_48 : decode cX10_set 48 = .ok (.iload_n 3, 1) := by decide +kernel
theorem dX10_set_49 : decode cX10_set 49 = .ok (.invokevirtual 84, 3) := by decide +kernel
theorem dX10_set_52 : decode cX10_set 52 = .ok (.ireturn, 1) := by decide +kernel
theorem dX10_wire_0 : decode cX10_wire 0 = .ok (.aload_n 0, 1) := by decide +kernel
theorem dX10_wire_1 : decode cX10_wire 1 = .ok (.getfield 10, 3) := by decide +kernel
theorem dX10_wire_4 : decode cX10_wire 4 = .ok (.getfield 62, 3) := by decide +kernel
theorem dX10_wire_7 : decode cX10_wire 7 = .ok (.iload_n 1, 1) := by decide +kernel
theorem dX10_wire_8 : decode cX10_wire 8 = .ok (.iload_n 2, 1) := by decide +kernel
theorem dX10_wire_9 : decode cX10_wire 9 = .ok (.invokevirtual 88, 3) := by decide +kernel
theorem dX10_wire_12 : decode cX10_wire 12 = .ok (.ifCond .eq 14, 3) := by decide +kernel
theorem dX10_wire_15 : decode cX10_wire 15 = .ok (.iload_n 3, 1) := by decide +kernel
theorem dX10_wire_16 : decode cX10_wire 16 = .ok (.ifCond .lt 10, 3) := by decide +kernel
theorem dX10_wire_19 : decode cX10_wire 19 = .ok (.iload_n 3, 1) := by decide +kernel
theorem dX10_wire_20 : decode cX10_wire 20 = .ok (.sipush 400, 3) := by decide +kernel
theorem dX10_wire_23 : decode cX10_wire 23 = .ok (.if_icmp .le 5, 3) := by decide +kernel
theorem dX10_wire_26 : decode cX10_wire 26 = .ok (.iconst (-1), 1) := by decide +kernel
theorem dX10_wire_27 : decode cX10_wire 27 = .ok (.ireturn, 1) := by decide +kernel
theorem dX10_wire_28 : decode cX10_wire 28 = .ok (.aload_n 0, 1) := by decide +kernel
theorem dX10_wire_29 : decode cX10_wire 29 = .ok (.getfield 10, 3) := by decide +kernel
theorem dX10_wire_32 : decode cX10_wire 32 = .ok (.getfield 62, 3) := by decide +kernel
theorem dX10_wire_35 : decode cX10_wire 35 = .ok (.iload_n 1, 1) := by decide +kernel
theorem dX10_wire_36 : decode cX10_wire 36 = .ok (.iload_n 2, 1) := by decide +kernel
theorem dX10_wire_37 : decode cX10_wire 37 = .ok (.iload_n 3, 1) := by decide +kernel
theorem dX10_wire_38 : decode cX10_wire 38 = .ok (.invokevirtual 92, 3) := by decide +kernel
theorem dX10_wire_41 : decode cX10_wire 41 = .ok (.ireturn, 1) := by decide +kernel
theorem dX10_wires_0 : decode cX10_wires 0 = .ok (.aload_n 0, 1) := by decide +kernel
theorem dX10_wires_1 : decode cX10_wires 1 = .ok (.getfield 10, 3) := by decide +kernel
theorem dX10_wires_4 : decode cX10_wires 4 = .ok (.getfield 62, 3) := by decide +kernel
theorem dX10_wires_7 : decode cX10_wires 7 = .ok (.iload_n 1, 1) := by decide +kernel
theorem dX10_wires_8 : decode cX10_wires 8 = .ok (.invokevirtual 76, 3) := by decide +kernel
theorem dX10_wires_11 : decode cX10_wires 11 = .ok (.ifCond .eq 17, 3) := by decide +kernel
theorem dX10_wires_14 : decode cX10_wires 14 = .ok (.iload_n 2, 1) := by decide +kernel
theorem dX10_wires_15 : decode cX10_wires 15 = .ok (.invokestatic 95, 3) := by decide +kernel
theorem dX10_wires_18 : decode cX10_wires 18 = .ok (.ifCond .eq 10, 3) := by decide +kernel
theorem dX10_wires_21 : decode cX10_wires 21 = .ok (.iload_n 3, 1) := by decide +kernel
theorem dX10_wires_22 : decode cX10_wires 22 = .ok (.invokestatic 98, 3) := by decide +kernel
theorem dX10_wires_25 : decode cX10_wires 25 = .ok (.ifCond .ne 5, 3) := by decide +kernel
theorem dX10_wires_28 : decode cX10_wires 28 = .ok (.iconst (-1), 1) := by decide +kernel
theorem dX10_wires_29 : decode cX10_wires 29 = .ok (.ireturn, 1) := by decide +kernel
theorem dX10_wires_30 : decode cX10_wires 30 = .ok (.aload_n 0, 1) := by decide +kernel
theorem dX10_wires_31 : decode cX10_wires 31 = .ok (.getfield 30, 3) := by decide +kernel
theorem dX10_wires_34 : decode cX10_wires 34 = .ok (.iload_n 2, 1) := by decide +kernel
theorem dX10_wires_35 : decode cX10_wires 35 = .ok (.aaload, 1) := by decide +kernel
theorem dX10_wires_36 : decode cX10_wires 36 = .ok (.astore 5, 2) := by decide +kernel
theorem dX10_wires_38 : decode cX10_wires 38 = .ok (.aload 5, 2) := by decide +kernel
theorem dX10_wires_40 : decode cX10_wires 40 = .ok (.iload_n 3, 1) := by decide +kernel
theorem dX10_wires_41 : decode cX10_wires 41 = .ok (.invokevirtual 101, 3) := by decide +kernel
theorem dX10_wires_44 : decode cX10_wires 44 = .ok (.istore 6, 2) := by decide +kernel
theorem dX10_wires_46 : decode cX10_wires 46 = .ok (.iload 6, 2) := by decide +kernel
theorem dX10_wires_48 : decode cX10_wires 48 = .ok (.ifCond .eq 6, 3) := by decide +kernel
theorem dX10_wires_51 : decode cX10_wires 51 = .ok (.iload 6, 2) := by decide +kernel
theorem dX10_wires_53 : decode cX10_wires 53 = .ok (.ireturn, 1) := by decide +kernel
theorem dX10_wires_54 : decode cX10_wires 54 = .ok (.aload 5, 2) := by decide +kernel
theorem dX10_wires_56 : decode cX10_wires 56 = .ok (.iload 4, 2) := by decide +kernel
theorem dX10_wires_58 : decode cX10_wires 58 = .ok (.aload_n 0, 1) := by decide +kernel
theorem dX10_wires_59 : decode cX10_wires 59 = .ok (.getfield 10, 3) := by decide +kernel
theorem dX10_wires_62 : decode cX10_wires 62 = .ok (.getfield 62, 3) := by decide +kernel
theorem dX10_wires_65 : decode cX10_wires 65 = .ok (.getfield 66, 3) := by decide +kernel
theorem dX10_wires_68 : decode cX10_wires 68 = .ok (.invokevirtual 104, 3) := by decide +kernel
theorem dX10_wires_71 : decode cX10_wires 71 = .ok (.ifCond .ne 6, 3) := by decide +kernel
theorem dX10_wires_74 : decode cX10_wires 74 = .ok (.bipush (-13), 2) := by decide +kernel
theorem dX10_wires_76 : decode cX10_wires 76 = .ok (.ireturn, 1) := by decide +kernel
theorem dX10_wires_77 : decode cX10_wires 77 = .ok (.aload_n 0, 1) := by decide +kernel
theorem dX10_wires_78 : decode cX10_wires 78 = .ok (.getfield 10, 3) := by decide +kernel
theorem dX10_wires_81 : decode cX10_wires 81 = .ok (.getfield 62, 3) := by decide +kernel
theorem dX10_wires_84 : decode cX10_wires 84 = .ok (.iload_n 1, 1) := by decide +kernel
theorem dX10_wires_85 : decode cX10_wires 85 = .ok (.aload 5, 2) := by decide +kernel
theorem dX10_wires_87 : decode cX10_wires 87 = .ok (.iload 4, 2) := by decide +kernel
theorem dX10_wires_89 : decode cX10_wires 89 = .ok (.invokevirtual 107, 3) := by decide +kernel
theorem dX10_wires_92 : decode cX10_wires 92 = .ok (.ifCond .eq 21, 3) := by decide +kernel
theorem dX10_wires_95 : decode cX10_wires 95 = .ok (.aload_n 0, 1) := by decide +kernel
theorem dX10_wires_96 : decode cX10_wires 96 = .ok (.getfield 10, 3) := by decide +kernel
theorem dX10_wires_99 : decode cX10_wires 99 = .ok (.getfield 62, 3) := by decide +kernel
theorem dX10_wires_102 : decode cX10_wires 102 = .ok (.iload_n 1, 1) := by decide +kernel
theorem dX10_wires_103 : decode cX10_wires 103 = .ok (.aload 5, 2) := by decide +kernel
theorem dX10_wires_105 : decode cX10_wires 105 = .ok (.iload 4, 2) := by decide +kernel
theorem dX10_wires_107 : decode cX10_wires 107 = .ok (.invokevirtual 111, 3) := by decide +kernel
theorem dX10_wires_110 : decode cX10_wires 110 = .ok (.goto 5, 3) := by decide +kernel
theorem dX10_wires_113 : decode cX10_wires 113 = .ok (.bipush (-2), 2) := by decide +kernel
theorem dX10_wires_115 : decode cX10_wires 115 = .ok (.ireturn, 1) := by decide +kernel
theorem dX10_pace_0 : decode cX10_pace 0 = .ok (.iload_n 1, 1) := by decide +kernel
theorem dX10_pace_1 : decode cX10_pace 1 = .ok (.iconst 1, 1) := by decide +kernel
theorem dX10_pace_2 : decode cX10_pace 2 = .ok (.if_icmp .lt 10, 3) := by decide +kernel
theorem dX10_pace_5 : decode cX10_pace 5 = .ok (.iload_n 1, 1) := by decide +kernel
theorem dX10_pace_6 : decode cX10_pace 6 = .ok (.sipush 2000, 3) := by decide +kernel
theorem dX10_pace_9 : decode cX10_pace 9 = .ok (.if_icmp .le 5, 3) := by decide +kernel
theorem dX10_pace_12 : decode cX10_pace 12 = .ok (.iconst (-1), 1) := by decide +kernel
theorem dX10_pace_13 : decode cX10_pace 13 = .ok (.ireturn, 1) := by decide +kernel
theorem dX10_pace_14 : decode cX10_pace 14 = .ok (.aload_n 0, 1) := by decide +kernel
theorem dX10_pace_15 : decode cX10_pace 15 = .ok (.getfield 10, 3) := by decide +kernel
theorem dX10_pace_18 : decode cX10_pace 18 = .ok (.getfield 62, 3) := by decide +kernel
theorem dX10_pace_21 : decode cX10_pace 21 = .ok (.getfield 115, 3) := by decide +kernel
theorem dX10_pace_24 : decode cX10_pace 24 = .ok (.istore_n 2, 1) := by decide +kernel
theorem dX10_pace_25 : decode cX10_pace 25 = .ok (.aload_n 0, 1) := by decide +kernel
theorem dX10_pace_26 : decode cX10_pace 26 = .ok (.getfield 10, 3) := by decide +kernel
theorem dX10_pace_29 : decode cX10_pace 29 = .ok (.getfield 62, 3) := by decide +kernel
theorem dX10_pace_32 : decode cX10_pace 32 = .ok (.iload_n 1, 1) := by decide +kernel
theorem dX10_pace_33 : decode cX10_pace 33 = .ok (.putfield 115, 3) := by decide +kernel
theorem dX10_pace_36 : decode cX10_pace 36 = .ok (.iload_n 2, 1) := by decide +kernel
theorem dX10_pace_37 : decode cX10_pace 37 = .ok (.ireturn, 1) := by decide +kernel
theorem dX10_time_0 : decode cX10_time 0 = .ok (.aload_n 0, 1) := by decide +kernel
theorem dX10_time_1 : decode cX10_time 1 = .ok (.getfield 10, 3) := by decide +kernel
theorem dX10_time_4 : decode cX10_time 4 = .ok (.getfield 62, 3) := by decide +kernel
theorem dX10_time_7 : decode cX10_time 7 = .ok (.iload_n 1, 1) := by decide +kernel
theorem dX10_time_8 : decode cX10_time 8 = .ok (.invokevirtual 76, 3) := by decide +kernel
theorem dX10_time_11 : decode cX10_time 11 = .ok (.ifCond .eq 13, 3) := by decide +kernel
theorem dX10_time_14 : decode cX10_time 14 = .ok (.iload_n 2, 1) := by decide +kernel
theorem dX10_time_15 : decode cX10_time 15 = .ok (.ifCond .lt 9, 3) := by decide +kernel
theorem dX10_time_18 : decode cX10_time 18 = .ok (.iload_n 2, 1) := by decide +kernel
theorem dX10_time_19 : decode cX10_time 19 = .ok (.bipush 40, 2) := by decide +kernel
theorem dX10_time_21 : decode cX10_time 21 = .ok (.if_icmp .le 6, 3) := by decide +kernel
theorem dX10_time_24 : decode cX10_time 24 = .ok (.ldc 118, 2) := by decide +kernel
theorem dX10_time_26 : decode cX10_time 26 = .ok (.ireturn, 1) := by decide +kernel
theorem dX10_time_27 : decode cX10_time 27 = .ok (.aload_n 0, 1) := by decide +kernel
theorem dX10_time_28 : decode cX10_time 28 = .ok (.getfield 10, 3) := by decide +kernel
theorem dX10_time_31 : decode cX10_time 31 = .ok (.getfield 62, 3) := by decide +kernel
theorem dX10_time_34 : decode cX10_time 34 = .ok (.iload_n 1, 1) := by decide +kernel
theorem dX10_time_35 : decode cX10_time 35 = .ok (.invokevirtual 119, 3) := by decide +kernel
theorem dX10_time_38 : decode cX10_time 38 = .ok (.ifCond .ne 6, 3) := by decide +kernel
theorem dX10_time_41 : decode cX10_time 41 = .ok (.ldc 122, 2) := by decide +kernel
theorem dX10_time_43 : decode cX10_time 43 = .ok (.ireturn, 1) := by decide +kernel
theorem dX10_time_44 : decode cX10_time 44 = .ok (.aload_n 0, 1) := by decide +kernel
theorem dX10_time_45 : decode cX10_time 45 = .ok (.getfield 37, 3) := by decide +kernel
theorem dX10_time_48 : decode cX10_time 48 = .ok (.aload_n 0, 1) := by decide +kernel
theorem dX10_time_49 : decode cX10_time 49 = .ok (.getfield 10, 3) := by decide +kernel
theorem dX10_time_52 : decode cX10_time 52 = .ok (.getfield 62, 3) := by decide +kernel
theorem dX10_time_55 : decode cX10_time 55 = .ok (.invokevirtual 123, 3) := by decide +kernel
theorem dX10_time_58 : decode cX10_time 58 = .ok (.aload_n 0, 1) := by decide +kernel
theorem dX10_time_59 : decode cX10_time 59 = .ok (.getfield 37, 3) := by decide +kernel
theorem dX10_time_62 : decode cX10_time 62 = .ok (.aload_n 0, 1) := by decide +kernel
theorem dX10_time_63 : decode cX10_time 63 = .ok (.getfield 10, 3) := by decide +kernel
theorem dX10_time_66 : decode cX10_time 66 = .ok (.getfield 62, 3) := by decide +kernel
theorem dX10_time_69 : decode cX10_time 69 = .ok (.iload_n 2, 1) := by decide +kernel
theorem dX10_time_70 : decode cX10_time 70 = .ok (.invokevirtual 127, 3) := by decide +kernel
theorem dX10_time_73 : decode cX10_time 73 = .ok (.aload_n 0, 1) := by decide +kernel
theorem dX10_time_74 : decode cX10_time 74 = .ok (.getfield 37, 3) := by decide +kernel
theorem dX10_time_77 : decode cX10_time 77 = .ok (.iload_n 1, 1) := by decide +kernel
theorem dX10_time_78 : decode cX10_time 78 = .ok (.invokevirtual 131, 3) := by decide +kernel
theorem dX10_time_81 : decode cX10_time 81 = .ok (.ireturn, 1) := by decide +kernel
theorem dX10_paceAt_0 : decode cX10_paceAt 0 = .ok (.iload_n 1, 1) := by decide +kernel
theorem dX10_paceAt_1 : decode cX10_paceAt 1 = .ok (.iconst 1, 1) := by decide +kernel
theorem dX10_paceAt_2 : decode cX10_paceAt 2 = .ok (.if_icmp .lt 9, 3) := by decide +kernel
theorem dX10_paceAt_5 : decode cX10_paceAt 5 = .ok (.iload_n 1, 1) := by decide +kernel
theorem dX10_paceAt_6 : decode cX10_paceAt 6 = .ok (.bipush 40, 2) := by decide +kernel
theorem dX10_paceAt_8 : decode cX10_paceAt 8 = .ok (.if_icmp .le 5, 3) := by decide +kernel
theorem dX10_paceAt_11 : decode cX10_paceAt 11 = .ok (.iconst (-1), 1) := by decide +kernel
theorem dX10_paceAt_12 : decode cX10_paceAt 12 = .ok (.ireturn, 1) := by decide +kernel
theorem dX10_paceAt_13 : decode cX10_paceAt 13 = .ok (.aload_n 0, 1) := by decide +kernel
theorem dX10_paceAt_14 : decode cX10_paceAt 14 = .ok (.getfield 10, 3) := by decide +kernel
theorem dX10_paceAt_17 : decode cX10_paceAt 17 = .ok (.getfield 62, 3) := by decide +kernel
theorem dX10_paceAt_20 : decode cX10_paceAt 20 = .ok (.invokevirtual 134, 3) := by decide +kernel
theorem dX10_paceAt_23 : decode cX10_paceAt 23 = .ok (.ifCond .ne 6, 3) := by decide +kernel
theorem dX10_paceAt_26 : decode cX10_paceAt 26 = .ok (.bipush (-4), 2) := by decide +kernel
theorem dX10_paceAt_28 : decode cX10_paceAt 28 = .ok (.ireturn, 1) := by decide +kernel
theorem dX10_paceAt_29 : decode cX10_paceAt 29 = .ok (.aload_n 0, 1) := by decide +kernel
theorem dX10_paceAt_30 : decode cX10_paceAt 30 = .ok (.getfield 37, 3) := by decide +kernel
theorem dX10_paceAt_33 : decode cX10_paceAt 33 = .ok (.aload_n 0, 1) := by decide +kernel
theorem dX10_paceAt_34 : decode cX10_paceAt 34 = .ok (.getfield 10, 3) := by decide +kernel
theorem dX10_paceAt_37 : decode cX10_paceAt 37 = .ok (.getfield 62, 3) := by decide +kernel
theorem dX10_paceAt_40 : decode cX10_paceAt 40 = .ok (.invokevirtual 123, 3) := by decide +kernel
theorem dX10_paceAt_43 : decode cX10_paceAt 43 = .ok (.aload_n 0, 1) := by decide +kernel
theorem dX10_paceAt_44 : decode cX10_paceAt 44 = .ok (.getfield 37, 3) := by decide +kernel
theorem dX10_paceAt_47 : decode cX10_paceAt 47 = .ok (.aload_n 0, 1) := by decide +kernel
theorem dX10_paceAt_48 : decode cX10_paceAt 48 = .ok (.getfield 10, 3) := by decide +kernel
theorem dX10_paceAt_51 : decode cX10_paceAt 51 = .ok (.getfield 62, 3) := by decide +kernel
theorem dX10_paceAt_54 : decode cX10_paceAt 54 = .ok (.iload_n 1, 1) := by decide +kernel
theorem dX10_paceAt_55 : decode cX10_paceAt 55 = .ok (.invokevirtual 127, 3) := by decide +kernel
theorem dX10_paceAt_58 : decode cX10_paceAt 58 = .ok (.aload_n 0, 1) := by decide +kernel
theorem dX10_paceAt_59 : decode cX10_paceAt 59 = .ok (.getfield 37, 3) := by decide +kernel
theorem dX10_paceAt_62 : decode cX10_paceAt 62 = .ok (.aload_n 0, 1) := by decide +kernel
theorem dX10_paceAt_63 : decode cX10_paceAt 63 = .ok (.getfield 10, 3) := by decide +kernel
theorem dX10_paceAt_66 : decode cX10_paceAt 66 = .ok (.getfield 62, 3) := by decide +kernel
theorem dX10_paceAt_69 : decode cX10_paceAt 69 = .ok (.invokevirtual 138, 3) := by decide +kernel
theorem dX10_paceAt_72 : decode cX10_paceAt 72 = .ok (.ireturn, 1) := by decide +kernel
theorem dX10_slows_0 : decode cX10_slows 0 = .ok (.iload_n 1, 1) := by decide +kernel
theorem dX10_slows_1 : decode cX10_slows 1 = .ok (.iconst 1, 1) := by decide +kernel
theorem dX10_slows_2 : decode cX10_slows 2 = .ok (.if_icmp .lt 19, 3) := by decide +kernel
theorem dX10_slows_5 : decode cX10_slows 5 = .ok (.iload_n 1, 1) := by decide +kernel
theorem dX10_slows_6 : decode cX10_slows 6 = .ok (.bipush 40, 2) := by decide +kernel
theorem dX10_slows_8 : decode cX10_slows 8 = .ok (.if_icmp .gt 13, 3) := by decide +kernel
theorem dX10_slows_11 : decode cX10_slows 11 = .ok (.iload_n 2, 1) := by decide +kernel
theorem dX10_slows_12 : decode cX10_slows 12 = .ok (.ifCond .lt 9, 3) := by decide +kernel
theorem dX10_slows_15 : decode cX10_slows 15 = .ok (.iload_n 2, 1) := by decide +kernel
theorem dX10_slows_16 : decode cX10_slows 16 = .ok (.ldc 142, 2) := by decide +kernel
theorem dX10_slows_18 : decode cX10_slows 18 = .ok (.if_icmp .le 5, 3) := by decide +kernel
theorem dX10_slows_21 : decode cX10_slows 21 = .ok (.iconst (-1), 1) := by decide +kernel
theorem dX10_slows_22 : decode cX10_slows 22 = .ok (.ireturn, 1) := by decide +kernel
theorem dX10_slows_23 : decode cX10_slows 23 = .ok (.aload_n 0, 1) := by decide +kernel
theorem dX10_slows_24 : decode cX10_slows 24 = .ok (.getfield 10, 3) := by decide +kernel
theorem dX10_slows_27 : decode cX10_slows 27 = .ok (.getfield 62, 3) := by decide +kernel
theorem dX10_slows_30 : decode cX10_slows 30 = .ok (.invokevirtual 134, 3) := by decide +kernel
theorem dX10_slows_33 : decode cX10_slows 33 = .ok (.ifCond .ne 6, 3) := by decide +kernel
theorem dX10_slows_36 : decode cX10_slows 36 = .ok (.bipush (-4), 2) := by decide +kernel
theorem dX10_slows_38 : decode cX10_slows 38 = .ok (.ireturn, 1) := by decide +kernel
theorem dX10_slows_39 : decode cX10_slows 39 = .ok (.aload_n 0, 1) := by decide +kernel
theorem dX10_slows_40 : decode cX10_slows 40 = .ok (.getfield 37, 3) := by decide +kernel
theorem dX10_slows_43 : decode cX10_slows 43 = .ok (.aload_n 0, 1) := by decide +kernel
theorem dX10_slows_44 : decode cX10_slows 44 = .ok (.getfield 10, 3) := by decide +kernel
theorem dX10_slows_47 : decode cX10_slows 47 = .ok (.getfield 62, 3) := by decide +kernel
theorem dX10_slows_50 : decode cX10_slows 50 = .ok (.invokevirtual 123, 3) := by decide +kernel
theorem dX10_slows_53 : decode cX10_slows 53 = .ok (.iconst 1, 1) := by decide +kernel
theorem dX10_slows_54 : decode cX10_slows 54 = .ok (.istore_n 3, 1) := by decide +kernel
theorem dX10_slows_55 : decode cX10_slows 55 = .ok (.iload_n 3, 1) := by decide +kernel
theorem dX10_slows_56 : decode cX10_slows 56 = .ok (.sipush 400, 3) := by decide +kernel
theorem dX10_slows_59 : decode cX10_slows 59 = .ok (.if_icmp .gt 59, 3) := by decide +kernel
theorem dX10_slows_62 : decode cX10_slows 62 = .ok (.aload_n 0, 1) := by decide +kernel
theorem dX10_slows_63 : decode cX10_slows 63 = .ok (.getfield 37, 3) := by decide +kernel
theorem dX10_slows_66 : decode cX10_slows 66 = .ok (.aload_n 0, 1) := by decide +kernel
theorem dX10_slows_67 : decode cX10_slows 67 = .ok (.getfield 10, 3) := by decide +kernel
theorem dX10_slows_70 : decode cX10_slows 70 = .ok (.getfield 62, 3) := by decide +kernel
theorem dX10_slows_73 : decode cX10_slows 73 = .ok (.iload_n 3, 1) := by decide +kernel
theorem dX10_slows_74 : decode cX10_slows 74 = .ok (.invokevirtual 143, 3) := by decide +kernel
theorem dX10_slows_77 : decode cX10_slows 77 = .ok (.aload_n 0, 1) := by decide +kernel
theorem dX10_slows_78 : decode cX10_slows 78 = .ok (.getfield 37, 3) := by decide +kernel
theorem dX10_slows_81 : decode cX10_slows 81 = .ok (.aload_n 0, 1) := by decide +kernel
theorem dX10_slows_82 : decode cX10_slows 82 = .ok (.getfield 10, 3) := by decide +kernel
theorem dX10_slows_85 : decode cX10_slows 85 = .ok (.getfield 62, 3) := by decide +kernel
theorem dX10_slows_88 : decode cX10_slows 88 = .ok (.iload_n 1, 1) := by decide +kernel
theorem dX10_slows_89 : decode cX10_slows 89 = .ok (.invokevirtual 127, 3) := by decide +kernel
theorem dX10_slows_92 : decode cX10_slows 92 = .ok (.aload_n 0, 1) := by decide +kernel
theorem dX10_slows_93 : decode cX10_slows 93 = .ok (.getfield 37, 3) := by decide +kernel
theorem dX10_slows_96 : decode cX10_slows 96 = .ok (.aload_n 0, 1) := by decide +kernel
theorem dX10_slows_97 : decode cX10_slows 97 = .ok (.getfield 10, 3) := by decide +kernel
theorem dX10_slows_100 : decode cX10_slows 100 = .ok (.getfield 62, 3) := by decide +kernel
theorem dX10_slows_103 : decode cX10_slows 103 = .ok (.invokevirtual 138, 3) := by decide +kernel
theorem dX10_slows_106 : decode cX10_slows 106 = .ok (.iload_n 2, 1) := by decide +kernel
theorem dX10_slows_107 : decode cX10_slows 107 = .ok (.if_icmp .le 5, 3) := by decide +kernel
theorem dX10_slows_110 : decode cX10_slows 110 = .ok (.iload_n 3, 1) := by decide +kernel
theorem dX10_slows_111 : decode cX10_slows 111 = .ok (.ireturn, 1) := by decide +kernel
theorem dX10_slows_112 : decode cX10_slows 112 = .ok (.iinc 3 1, 3) := by decide +kernel
theorem dX10_slows_115 : decode cX10_slows 115 = .ok (.goto (-60), 3) := by decide +kernel
theorem dX10_slows_118 : decode cX10_slows 118 = .ok (.bipush (-4), 2) := by decide +kernel
theorem dX10_slows_120 : decode cX10_slows 120 = .ok (.ireturn, 1) := by decide +kernel
theorem dX10_apart_0 : decode cX10_apart 0 = .ok (.iload_n 1, 1) := by decide +kernel
theorem dX10_apart_1 : decode cX10_apart 1 = .ok (.ifCond .lt 9, 3) := by decide +kernel
theorem dX10_apart_4 : decode cX10_apart 4 = .ok (.iload_n 1, 1) := by decide +kernel
theorem dX10_apart_5 : decode cX10_apart 5 = .ok (.bipush 40, 2) := by decide +kernel
theorem dX10_apart_7 : decode cX10_apart 7 = .ok (.if_icmp .le 5, 3) := by decide +kernel
theorem dX10_apart_10 : decode cX10_apart 10 = .ok (.iconst (-1), 1) := by decide +kernel
theorem dX10_apart_11 : decode cX10_apart 11 = .ok (.ireturn, 1) := by decide +kernel
theorem dX10_apart_12 : decode cX10_apart 12 = .ok (.aload_n 0, 1) := by decide +kernel
theorem dX10_apart_13 : decode cX10_apart 13 = .ok (.getfield 10, 3) := by decide +kernel
theorem dX10_apart_16 : decode cX10_apart 16 = .ok (.getfield 62, 3) := by decide +kernel
theorem dX10_apart_19 : decode cX10_apart 19 = .ok (.invokevirtual 134, 3) := by decide +kernel
theorem dX10_apart_22 : decode cX10_apart 22 = .ok (.ifCond .ne 6, 3) := by decide +kernel
theorem dX10_apart_25 : decode cX10_apart 25 = .ok (.bipush (-4), 2) := by decide +kernel
theorem dX10_apart_27 : decode cX10_apart 27 = .ok (.ireturn, 1) := by decide +kernel
theorem dX10_apart_28 : decode cX10_apart 28 = .ok (.aload_n 0, 1) := by decide +kernel
theorem dX10_apart_29 : decode cX10_apart 29 = .ok (.getfield 37, 3) := by decide +kernel
theorem dX10_apart_32 : decode cX10_apart 32 = .ok (.aload_n 0, 1) := by decide +kernel
theorem dX10_apart_33 : decode cX10_apart 33 = .ok (.getfield 10, 3) := by decide +kernel
theorem dX10_apart_36 : decode cX10_apart 36 = .ok (.getfield 62, 3) := by decide +kernel
theorem dX10_apart_39 : decode cX10_apart 39 = .ok (.invokevirtual 123, 3) := by decide +kernel
theorem dX10_apart_42 : decode cX10_apart 42 = .ok (.aload_n 0, 1) := by decide +kernel
theorem dX10_apart_43 : decode cX10_apart 43 = .ok (.getfield 37, 3) := by decide +kernel
theorem dX10_apart_46 : decode cX10_apart 46 = .ok (.aload_n 0, 1) := by decide +kernel
theorem dX10_apart_47 : decode cX10_apart 47 = .ok (.getfield 10, 3) := by decide +kernel
theorem dX10_apart_50 : decode cX10_apart 50 = .ok (.getfield 62, 3) := by decide +kernel
theorem dX10_apart_53 : decode cX10_apart 53 = .ok (.iload_n 1, 1) := by decide +kernel
theorem dX10_apart_54 : decode cX10_apart 54 = .ok (.invokevirtual 127, 3) := by decide +kernel
theorem dX10_apart_57 : decode cX10_apart 57 = .ok (.aload_n 0, 1) := by decide +kernel
theorem dX10_apart_58 : decode cX10_apart 58 = .ok (.getfield 37, 3) := by decide +kernel
theorem dX10_apart_61 : decode cX10_apart 61 = .ok (.aload_n 0, 1) := by decide +kernel
theorem dX10_apart_62 : decode cX10_apart 62 = .ok (.getfield 10, 3) := by decide +kernel
theorem dX10_apart_65 : decode cX10_apart 65 = .ok (.getfield 62, 3) := by decide +kernel
theorem dX10_apart_68 : decode cX10_apart 68 = .ok (.invokevirtual 146, 3) := by decide +kernel
theorem dX10_apart_71 : decode cX10_apart 71 = .ok (.ireturn, 1) := by decide +kernel
theorem dX10_count_0 : decode cX10_count 0 = .ok (.iload_n 1, 1) := by decide +kernel
theorem dX10_count_1 : decode cX10_count 1 = .ok (.tableswitch 108 0 5 #[39, 50, 64, 75, 86, 97], 39) := by decide +kernel
theorem dX10_count_40 : decode cX10_count 40 = .ok (.aload_n 0, 1) := by decide +kernel
theorem dX10_count_41 : decode cX10_count 41 = .ok (.getfield 10, 3) := by decide +kernel
theorem dX10_count_44 : decode cX10_count 44 = .ok (.getfield 62, 3) := by decide +kernel
theorem dX10_count_47 : decode cX10_count 47 = .ok (.getfield 66, 3) := by decide +kernel
theorem dX10_count_50 : decode cX10_count 50 = .ok (.ireturn, 1) := by decide +kernel
theorem dX10_count_51 : decode cX10_count 51 = .ok (.aload_n 0, 1) := by decide +kernel
theorem dX10_count_52 : decode cX10_count 52 = .ok (.getfield 10, 3) := by decide +kernel
theorem dX10_count_55 : decode cX10_count 55 = .ok (.getfield 62, 3) := by decide +kernel
theorem dX10_count_58 : decode cX10_count 58 = .ok (.invokevirtual 134, 3) := by decide +kernel
theorem dX10_count_61 : decode cX10_count 61 = .ok (.invokestatic 149, 3) := by decide +kernel
theorem dX10_count_64 : decode cX10_count 64 = .ok (.ireturn, 1) := by decide +kernel
theorem dX10_count_65 : decode cX10_count 65 = .ok (.aload_n 0, 1) := by decide +kernel
theorem dX10_count_66 : decode cX10_count 66 = .ok (.getfield 10, 3) := by decide +kernel
theorem dX10_count_69 : decode cX10_count 69 = .ok (.getfield 62, 3) := by decide +kernel
theorem dX10_count_72 : decode cX10_count 72 = .ok (.invokevirtual 154, 3) := by decide +kernel
theorem dX10_count_75 : decode cX10_count 75 = .ok (.ireturn, 1) := by decide +kernel
theorem dX10_count_76 : decode cX10_count 76 = .ok (.aload_n 0, 1) := by decide +kernel
theorem dX10_count_77 : decode cX10_count 77 = .ok (.getfield 10, 3) := by decide +kernel
theorem dX10_count_80 : decode cX10_count 80 = .ok (.getfield 157, 3) := by decide +kernel
theorem dX10_count_83 : decode cX10_count 83 = .ok (.getfield 161, 3) := by decide +kernel
theorem dX10_count_86 : decode cX10_count 86 = .ok (.ireturn, 1) := by decide +kernel
theorem dX10_count_87 : decode cX10_count 87 = .ok (.aload_n 0, 1) := by decide +kernel
theorem dX10_count_88 : decode cX10_count 88 = .ok (.getfield 10, 3) := by decide +kernel
theorem dX10_count_91 : decode cX10_count 91 = .ok (.getfield 157, 3) := by decide +kernel
theorem dX10_count_94 : decode cX10_count 94 = .ok (.invokevirtual 166, 3) := by decide +kernel
theorem dX10_count_97 : decode cX10_count 97 = .ok (.ireturn, 1) := by decide +kernel
theorem dX10_count_98 : decode cX10_count 98 = .ok (.aload_n 0, 1) := by decide +kernel
theorem dX10_count_99 : decode cX10_count 99 = .ok (.getfield 10, 3) := by decide +kernel
theorem dX10_count_102 : decode cX10_count 102 = .ok (.getfield 169, 3) := by decide +kernel
theorem dX10_count_105 : decode cX10_count 105 = .ok (.getfield 173, 3) := by decide +kernel
theorem dX10_count_108 : decode cX10_count 108 = .ok (.ireturn, 1) := by decide +kernel
theorem dX10_count_109 : decode cX10_count 109 = .ok (.iconst (-1), 1) := by decide +kernel
theorem dX10_count_110 : decode cX10_count 110 = .ok (.ireturn, 1) := by decide +kernel
theorem dX10_hold_0 : decode cX10_hold 0 = .ok (.aload_n 0, 1) := by decide +kernel
theorem dX10_hold_1 : decode cX10_hold 1 = .ok (.getfield 10, 3) := by decide +kernel
theorem dX10_hold_4 : decode cX10_hold 4 = .ok (.getfield 62, 3) := by decide +kernel
theorem dX10_hold_7 : decode cX10_hold 7 = .ok (.iload_n 1, 1) := by decide +kernel
theorem dX10_hold_8 : decode cX10_hold 8 = .ok (.invokevirtual 76, 3) := by decide +kernel
theorem dX10_hold_11 : decode cX10_hold 11 = .ok (.ifCond .eq 12, 3) := by decide +kernel
theorem dX10_hold_14 : decode cX10_hold 14 = .ok (.iload_n 2, 1) := by decide +kernel
theorem dX10_hold_15 : decode cX10_hold 15 = .ok (.ifCond .lt 8, 3) := by decide +kernel
theorem dX10_hold_18 : decode cX10_hold 18 = .ok (.iload_n 2, 1) := by decide +kernel
theorem dX10_hold_19 : decode cX10_hold 19 = .ok (.iconst 1, 1) := by decide +kernel
theorem dX10_hold_20 : decode cX10_hold 20 = .ok (.if_icmp .le 5, 3) := by decide +kernel
theorem dX10_hold_23 : decode cX10_hold 23 = .ok (.iconst (-1), 1) := by decide +kernel
theorem dX10_hold_24 : decode cX10_hold 24 = .ok (.ireturn, 1) := by decide +kernel
theorem dX10_hold_25 : decode cX10_hold 25 = .ok (.aload_n 0, 1) := by decide +kernel
theorem dX10_hold_26 : decode cX10_hold 26 = .ok (.getfield 10, 3) := by decide +kernel
theorem dX10_hold_29 : decode cX10_hold 29 = .ok (.getfield 62, 3) := by decide +kernel
theorem dX10_hold_32 : decode cX10_hold 32 = .ok (.invokevirtual 134, 3) := by decide +kernel
theorem dX10_hold_35 : decode cX10_hold 35 = .ok (.iconst 1, 1) := by decide +kernel
theorem dX10_hold_36 : decode cX10_hold 36 = .ok (.iload_n 1, 1) := by decide +kernel
theorem dX10_hold_37 : decode cX10_hold 37 = .ok (.ishl, 1) := by decide +kernel
theorem dX10_hold_38 : decode cX10_hold 38 = .ok (.iconst (-1), 1) := by decide +kernel
theorem dX10_hold_39 : decode cX10_hold 39 = .ok (.ixor, 1) := by decide +kernel
theorem dX10_hold_40 : decode cX10_hold 40 = .ok (.iand, 1) := by decide +kernel
theorem dX10_hold_41 : decode cX10_hold 41 = .ok (.istore_n 3, 1) := by decide +kernel
theorem dX10_hold_42 : decode cX10_hold 42 = .ok (.aload_n 0, 1) := by decide +kernel
theorem dX10_hold_43 : decode cX10_hold 43 = .ok (.getfield 10, 3) := by decide +kernel
theorem dX10_hold_46 : decode cX10_hold 46 = .ok (.getfield 62, 3) := by decide +kernel
theorem dX10_hold_49 : decode cX10_hold 49 = .ok (.iload_n 1, 1) := by decide +kernel
theorem dX10_hold_50 : decode cX10_hold 50 = .ok (.invokevirtual 176, 3) := by decide +kernel
theorem dX10_hold_53 : decode cX10_hold 53 = .ok (.ifCond .ne 18, 3) := by decide +kernel
theorem dX10_hold_56 : decode cX10_hold 56 = .ok (.aload_n 0, 1) := by decide +kernel
theorem dX10_hold_57 : decode cX10_hold 57 = .ok (.getfield 10, 3) := by decide +kernel
theorem dX10_hold_60 : decode cX10_hold 60 = .ok (.getfield 62, 3) := by decide +kernel
theorem dX10_hold_63 : decode cX10_hold 63 = .ok (.iload_n 1, 1) := by decide +kernel
theorem dX10_hold_64 : decode cX10_hold 64 = .ok (.iload_n 3, 1) := by decide +kernel
theorem dX10_hold_65 : decode cX10_hold 65 = .ok (.invokevirtual 179, 3) := by decide +kernel
theorem dX10_hold_68 : decode cX10_hold 68 = .ok (.ifCond .ne 6, 3) := by decide +kernel
theorem dX10_hold_71 : decode cX10_hold 71 = .ok (.bipush (-4), 2) := by decide +kernel
theorem dX10_hold_73 : decode cX10_hold 73 = .ok (.ireturn, 1) := by decide +kernel
theorem dX10_hold_74 : decode cX10_hold 74 = .ok (.aload_n 0, 1) := by decide +kernel
theorem dX10_hold_75 : decode cX10_hold 75 = .ok (.getfield 10, 3) := by decide +kernel
theorem dX10_hold_78 : decode cX10_hold 78 = .ok (.getfield 62, 3) := by decide +kernel
theorem dX10_hold_81 : decode cX10_hold 81 = .ok (.iload_n 1, 1) := by decide +kernel
theorem dX10_hold_82 : decode cX10_hold 82 = .ok (.iload_n 3, 1) := by decide +kernel
theorem dX10_hold_83 : decode cX10_hold 83 = .ok (.invokevirtual 182, 3) := by decide +kernel
theorem dX10_hold_86 : decode cX10_hold 86 = .ok (.istore 4, 2) := by decide +kernel
theorem dX10_hold_88 : decode cX10_hold 88 = .ok (.iload_n 2, 1) := by decide +kernel
theorem dX10_hold_89 : decode cX10_hold 89 = .ok (.ifCond .ne 8, 3) := by decide +kernel
theorem dX10_hold_92 : decode cX10_hold 92 = .ok (.iload 4, 2) := by decide +kernel
theorem dX10_hold_94 : decode cX10_hold 94 = .ok (.goto 17, 3) := by decide +kernel
theorem dX10_hold_97 : decode cX10_hold 97 = .ok (.aload_n 0, 1) := by decide +kernel
theorem dX10_hold_98 : decode cX10_hold 98 = .ok (.getfield 10, 3) := by decide +kernel
theorem dX10_hold_101 : decode cX10_hold 101 = .ok (.getfield 62, 3) := by decide +kernel
theorem dX10_hold_104 : decode cX10_hold 104 = .ok (.iload_n 1, 1) := by decide +kernel
theorem dX10_hold_105 : decode cX10_hold 105 = .ok (.iload_n 3, 1) := by decide +kernel
theorem dX10_hold_106 : decode cX10_hold 106 = .ok (.iload 4, 2) := by decide +kernel
theorem dX10_hold_108 : decode cX10_hold 108 = .ok (.invokevirtual 186, 3) := by decide +kernel
theorem dX10_hold_111 : decode cX10_hold 111 = .ok (.ireturn, 1) := by decide +kernel
theorem dX10_together_0 : decode cX10_together 0 = .ok (.iload_n 1, 1) := by decide +kernel
theorem dX10_together_1 : decode cX10_together 1 = .ok (.ifCond .eq 20, 3) := by decide +kernel
theorem dX10_together_4 : decode cX10_together 4 = .ok (.iload_n 1, 1) := by decide +kernel
theorem dX10_together_5 : decode cX10_together 5 = .ok (.aload_n 0, 1) := by decide +kernel
theorem dX10_together_6 : decode cX10_together 6 = .ok (.getfield 10, 3) := by decide +kernel
theorem dX10_together_9 : decode cX10_together 9 = .ok (.getfield 62, 3) := by decide +kernel
theorem dX10_together_12 : decode cX10_together 12 = .ok (.invokevirtual 189, 3) := by decide +kernel
theorem dX10_together_15 : decode cX10_together 15 = .ok (.iconst (-1), 1) := by decide +kernel
theorem dX10_together_16 : decode cX10_together 16 = .ok (.ixor, 1) := by decide +kernel
theorem dX10_together_17 : decode cX10_together 17 = .ok (.iand, 1) := by decide +kernel
theorem dX10_together_18 : decode cX10_together 18 = .ok (.ifCond .eq 5, 3) := by decide +kernel
theorem dX10_together_21 : decode cX10_together 21 = .ok (.iconst (-1), 1) := by decide +kernel
theorem dX10_together_22 : decode cX10_together 22 = .ok (.ireturn, 1) := by decide +kernel
theorem dX10_together_23 : decode cX10_together 23 = .ok (.iload_n 2, 1) := by decide +kernel
theorem dX10_together_24 : decode cX10_together 24 = .ok (.bipush 8, 2) := by decide +kernel
theorem dX10_together_26 : decode cX10_together 26 = .ok (.if_icmp .ne 19, 3) := by decide +kernel
theorem dX10_together_29 : decode cX10_together 29 = .ok (.aload_n 0, 1) := by decide +kernel
theorem dX10_together_30 : decode cX10_together 30 = .ok (.getfield 44, 3) := by decide +kernel
theorem dX10_together_33 : decode cX10_together 33 = .ok (.aload_n 0, 1) := by decide +kernel
theorem dX10_together_34 : decode cX10_together 34 = .ok (.getfield 10, 3) := by decide +kernel
theorem dX10_together_37 : decode cX10_together 37 = .ok (.getfield 62, 3) := by decide +kernel
theorem dX10_together_40 : decode cX10_together 40 = .ok (.iload_n 1, 1) := by decide +kernel
theorem dX10_together_41 : decode cX10_together 41 = .ok (.invokevirtual 192, 3) := by decide +kernel
theorem dX10_together_44 : decode cX10_together 44 = .ok (.ireturn, 1) := by decide +kernel
theorem dX10_together_45 : decode cX10_together 45 = .ok (.aload_n 0, 1) := by decide +kernel
theorem dX10_together_46 : decode cX10_together 46 = .ok (.getfield 10, 3) := by decide +kernel
theorem dX10_together_49 : decode cX10_together 49 = .ok (.getfield 62, 3) := by decide +kernel
theorem dX10_together_52 : decode cX10_together 52 = .ok (.iload_n 2, 1) := by decide +kernel
theorem dX10_together_53 : decode cX10_together 53 = .ok (.invokevirtual 76, 3) := by decide +kernel
theorem dX10_together_56 : decode cX10_together 56 = .ok (.ifCond .ne 5, 3) := by decide +kernel
theorem dX10_together_59 : decode cX10_together 59 = .ok (.iconst (-1), 1) := by decide +kernel
theorem dX10_together_60 : decode cX10_together 60 = .ok (.ireturn, 1) := by decide +kernel
theorem dX10_together_61 : decode cX10_together 61 = .ok (.aload_n 0, 1) := by decide +kernel
theorem dX10_together_62 : decode cX10_together 62 = .ok (.getfield 10, 3) := by decide +kernel
theorem dX10_together_65 : decode cX10_together 65 = .ok (.getfield 62, 3) := by decide +kernel
theorem dX10_together_68 : decode cX10_together 68 = .ok (.iload_n 2, 1) := by decide +kernel
theorem dX10_together_69 : decode cX10_together 69 = .ok (.invokevirtual 119, 3) := by decide +kernel
theorem dX10_together_72 : decode cX10_together 72 = .ok (.ifCond .eq 11, 3) := by decide +kernel
theorem dX10_together_75 : decode cX10_together 75 = .ok (.iload_n 1, 1) := by decide +kernel
theorem dX10_together_76 : decode cX10_together 76 = .ok (.iload_n 2, 1) := by decide +kernel
theorem dX10_together_77 : decode cX10_together 77 = .ok (.ishr, 1) := by decide +kernel
theorem dX10_together_78 : decode cX10_together 78 = .ok (.iconst 1, 1) := by decide +kernel
theorem dX10_together_79 : decode cX10_together 79 = .ok (.iand, 1) := by decide +kernel
theorem dX10_together_80 : decode cX10_together 80 = .ok (.ifCond .eq 6, 3) := by decide +kernel
theorem dX10_together_83 : decode cX10_together 83 = .ok (.bipush (-2), 2) := by decide +kernel
theorem dX10_together_85 : decode cX10_together 85 = .ok (.ireturn, 1) := by decide +kernel
theorem dX10_together_86 : decode cX10_together 86 = .ok (.aload_n 0, 1) := by decide +kernel
theorem dX10_together_87 : decode cX10_together 87 = .ok (.getfield 44, 3) := by decide +kernel
theorem dX10_together_90 : decode cX10_together 90 = .ok (.aload_n 0, 1) := by decide +kernel
theorem dX10_together_91 : decode cX10_together 91 = .ok (.getfield 10, 3) := by decide +kernel
theorem dX10_together_94 : decode cX10_together 94 = .ok (.getfield 62, 3) := by decide +kernel
theorem dX10_together_97 : decode cX10_together 97 = .ok (.iload_n 1, 1) := by decide +kernel
theorem dX10_together_98 : decode cX10_together 98 = .ok (.invokevirtual 192, 3) := by decide +kernel
theorem dX10_together_101 : decode cX10_together 101 = .ok (.bipush (-4), 2) := by decide +kernel
theorem dX10_together_103 : decode cX10_together 103 = .ok (.if_icmp .ne 14, 3) := by decide +kernel
theorem dX10_together_106 : decode cX10_together 106 = .ok (.aload_n 0, 1) := by decide +kernel
theorem dX10_together_107 : decode cX10_together 107 = .ok (.getfield 44, 3) := by decide +kernel
theorem dX10_together_110 : decode cX10_together 110 = .ok (.iload_n 2, 1) := by decide +kernel
theorem dX10_together_111 : decode cX10_together 111 = .ok (.invokevirtual 196, 3) := by decide +kernel
theorem dX10_together_114 : decode cX10_together 114 = .ok (.goto 5, 3) := by decide +kernel
theorem dX10_together_117 : decode cX10_together 117 = .ok (.bipush (-4), 2) := by decide +kernel
theorem dX10_together_119 : decode cX10_together 119 = .ok (.ireturn, 1) := by decide +kernel
theorem dX10_type_0 : decode cX10_type 0 = .ok (.iload_n 3, 1) := by decide +kernel
theorem dX10_type_1 : decode cX10_type 1 = .ok (.iconst 1, 1) := by decide +kernel
theorem dX10_type_2 : decode cX10_type 2 = .ok (.if_icmp .lt 17, 3) := by decide +kernel
theorem dX10_type_5 : decode cX10_type 5 = .ok (.iload_n 3, 1) := by decide +kernel
theorem dX10_type_6 : decode cX10_type 6 = .ok (.bipush 8, 2) := by decide +kernel
theorem dX10_type_8 : decode cX10_type 8 = .ok (.if_icmp .gt 11, 3) := by decide +kernel
theorem dX10_type_11 : decode cX10_type 11 = .ok (.lload_n 1, 1) := by decide +kernel
theorem dX10_type_12 : decode cX10_type 12 = .ok (.iload_n 3, 1) := by decide +kernel
theorem dX10_type_13 : decode cX10_type 13 = .ok (.invokestatic 199, 3) := by decide +kernel
theorem dX10_type_16 : decode cX10_type 16 = .ok (.ifCond .ne 5, 3) := by decide +kernel
theorem dX10_type_19 : decode cX10_type 19 = .ok (.iconst (-1), 1) := by decide +kernel
theorem dX10_type_20 : decode cX10_type 20 = .ok (.ireturn, 1) := by decide +kernel
theorem dX10_type_21 : decode cX10_type 21 = .ok (.aload_n 0, 1) := by decide +kernel
theorem dX10_type_22 : decode cX10_type 22 = .ok (.getfield 23, 3) := by decide +kernel
theorem dX10_type_25 : decode cX10_type 25 = .ok (.getfield 203, 3) := by decide +kernel
theorem dX10_type_28 : decode cX10_type 28 = .ok (.iload_n 3, 1) := by decide +kernel
theorem dX10_type_29 : decode cX10_type 29 = .ok (.iadd, 1) := by decide +kernel
theorem dX10_type_30 : decode cX10_type 30 = .ok (.bipush 120, 2) := by decide +kernel
theorem dX10_type_32 : decode cX10_type 32 = .ok (.if_icmp .le 8, 3) := by decide +kernel
theorem dX10_type_35 : decode cX10_type 35 = .ok (.bipush (-3), 2) := by decide +kernel
theorem dX10_type_37 : decode cX10_type 37 = .ok (.goto 12, 3) := by decide +kernel
theorem dX10_type_40 : decode cX10_type 40 = .ok (.aload_n 0, 1) := by decide +kernel
theorem dX10_type_41 : decode cX10_type 41 = .ok (.getfield 23, 3) := by decide +kernel
theorem dX10_type_44 : decode cX10_type 44 = .ok (.lload_n 1, 1) := by decide +kernel
theorem dX10_type_45 : decode cX10_type 45 = .ok (.iload_n 3, 1) := by decide +kernel
theorem dX10_type_46 : decode cX10_type 46 = .ok (.invokevirtual 204, 3) := by decide +kernel
theorem dX10_type_49 : decode cX10_type 49 = .ok (.ireturn, 1) := by decide +kernel
theorem dX10_piece_0 : decode cX10_piece 0 = .ok (.aload_n 0, 1) := by decide +kernel
theorem dX10_piece_1 : decode cX10_piece 1 = .ok (.getfield 23, 3) := by decide +kernel
theorem dX10_piece_4 : decode cX10_piece 4 = .ok (.invokevirtual 208, 3) := by decide +kernel
theorem dX10_piece_7 : decode cX10_piece 7 = .ok (.istore_n 1, 1) := by decide +kernel
theorem dX10_piece_8 : decode cX10_piece 8 = .ok (.iload_n 1, 1) := by decide +kernel
theorem dX10_piece_9 : decode cX10_piece 9 = .ok (.ifCond .le 20, 3) := by decide +kernel
theorem dX10_piece_12 : decode cX10_piece 12 = .ok (.aload_n 0, 1) := by decide +kernel
theorem dX10_piece_13 : decode cX10_piece 13 = .ok (.getfield 10, 3) := by decide +kernel
theorem dX10_piece_16 : decode cX10_piece 16 = .ok (.getfield 157, 3) := by decide +kernel
theorem dX10_piece_19 : decode cX10_piece 19 = .ok (.aload_n 0, 1) := by decide +kernel
theorem dX10_piece_20 : decode cX10_piece 20 = .ok (.getfield 23, 3) := by decide +kernel
theorem dX10_piece_23 : decode cX10_piece 23 = .ok (.getfield 211, 3) := by decide +kernel
theorem dX10_piece_26 : decode cX10_piece 26 = .ok (.invokevirtual 214, 3) := by decide +kernel
theorem dX10_piece_29 : decode cX10_piece 29 = .ok (.aload_n 0, 1) := by decide +kernel
theorem dX10_piece_30 : decode cX10_piece 30 = .ok (.getfield 23, 3) := by decide +kernel
theorem dX10_piece_33 : decode cX10_piece 33 = .ok (.iconst 0, 1) := by decide +kernel
theorem dX10_piece_34 : decode cX10_piece 34 = .ok (.putfield 203, 3) := by decide +kernel
theorem dX10_piece_37 : decode cX10_piece 37 = .ok (.iload_n 1, 1) := by decide +kernel
theorem dX10_piece_38 : decode cX10_piece 38 = .ok (.ireturn, 1) := by decide +kernel
theorem dX10_sound_0 : decode cX10_sound 0 = .ok (.iload_n 1, 1) := by decide +kernel
theorem dX10_sound_1 : decode cX10_sound 1 = .ok (.ifCond .lt 17, 3) := by decide +kernel
theorem dX10_sound_4 : decode cX10_sound 4 = .ok (.iload_n 1, 1) := by decide +kernel
theorem dX10_sound_5 : decode cX10_sound 5 = .ok (.aload_n 0, 1) := by decide +kernel
theorem dX10_sound_6 : decode cX10_sound 6 = .ok (.getfield 10, 3) := by decide +kernel
theorem dX10_sound_9 : decode cX10_sound 9 = .ok (.getfield 157, 3) := by decide +kernel
theorem dX10_sound_12 : decode cX10_sound 12 = .ok (.getfield 161, 3) := by decide +kernel
theorem dX10_sound_15 : decode cX10_sound 15 = .ok (.if_icmp .lt 7, 3) := by decide +kernel
theorem dX10_sound_18 : decode cX10_sound 18 = .ok (.iconst (-1), 1) := by decide +kernel
theorem dX10_sound_19 : decode cX10_sound 19 = .ok (.goto 15, 3) := by decide +kernel
theorem dX10_sound_22 : decode cX10_sound 22 = .ok (.aload_n 0, 1) := by decide +kernel
theorem dX10_sound_23 : decode cX10_sound 23 = .ok (.getfield 10, 3) := by decide +kernel
theorem dX10_sound_26 : decode cX10_sound 26 = .ok (.getfield 157, 3) := by decide +kernel
theorem dX10_sound_29 : decode cX10_sound 29 = .ok (.getfield 218, 3) := by decide +kernel
theorem dX10_sound_32 : decode cX10_sound 32 = .ok (.iload_n 1, 1) := by decide +kernel
theorem dX10_sound_33 : decode cX10_sound 33 = .ok (.iaload, 1) := by decide +kernel
theorem dX10_sound_34 : decode cX10_sound 34 = .ok (.ireturn, 1) := by decide +kernel
theorem dX10_fit_0 : decode cX10_fit 0 = .ok (.iload_n 1, 1) := by decide +kernel
theorem dX10_fit_1 : decode cX10_fit 1 = .ok (.ifCond .lt 9, 3) := by decide +kernel
theorem dX10_fit_4 : decode cX10_fit 4 = .ok (.iload_n 1, 1) := by decide +kernel
theorem dX10_fit_5 : decode cX10_fit 5 = .ok (.bipush 127, 2) := by decide +kernel
theorem dX10_fit_7 : decode cX10_fit 7 = .ok (.if_icmp .le 5, 3) := by decide +kernel
theorem dX10_fit_10 : decode cX10_fit 10 = .ok (.iconst (-1), 1) := by decide +kernel
theorem dX10_fit_11 : decode cX10_fit 11 = .ok (.ireturn, 1) := by decide +kernel
theorem dX10_fit_12 : decode cX10_fit 12 = .ok (.aload_n 0, 1) := by decide +kernel
theorem dX10_fit_13 : decode cX10_fit 13 = .ok (.getfield 10, 3) := by decide +kernel
theorem dX10_fit_16 : decode cX10_fit 16 = .ok (.getfield 221, 3) := by decide +kernel
theorem dX10_fit_19 : decode cX10_fit 19 = .ok (.istore_n 2, 1) := by decide +kernel
theorem dX10_fit_20 : decode cX10_fit 20 = .ok (.aload_n 0, 1) := by decide +kernel
theorem dX10_fit_21 : decode cX10_fit 21 = .ok (.getfield 10, 3) := by decide +kernel
theorem dX10_fit_24 : decode cX10_fit 24 = .ok (.iload_n 1, 1) := by decide +kernel
theorem dX10_fit_25 : decode cX10_fit 25 = .ok (.putfield 221, 3) := by decide +kernel
theorem dX10_fit_28 : decode cX10_fit 28 = .ok (.iload_n 2, 1) := by decide +kernel
theorem dX10_fit_29 : decode cX10_fit 29 = .ok (.ireturn, 1) := by decide +kernel
theorem dX10_clashes_0 : decode cX10_clashes 0 = .ok (.iload_n 1, 1) := by decide +kernel
theorem dX10_clashes_1 : decode cX10_clashes 1 = .ok (.iconst 1, 1) := by decide +kernel
theorem dX10_clashes_2 : decode cX10_clashes 2 = .ok (.if_icmp .lt 17, 3) := by decide +kernel
theorem dX10_clashes_5 : decode cX10_clashes 5 = .ok (.iload_n 1, 1) := by decide +kernel
theorem dX10_clashes_6 : decode cX10_clashes 6 = .ok (.aload_n 0, 1) := by decide +kernel
theorem dX10_clashes_7 : decode cX10_clashes 7 = .ok (.getfield 10, 3) := by decide +kernel
theorem dX10_clashes_10 : decode cX10_clashes 10 = .ok (.getfield 157, 3) := by decide +kernel
theorem dX10_clashes_13 : decode cX10_clashes 13 = .ok (.getfield 161, 3) := by decide +kernel
theorem dX10_clashes_16 : decode cX10_clashes 16 = .ok (.if_icmp .lt 7, 3) := by decide +kernel
theorem dX10_clashes_19 : decode cX10_clashes 19 = .ok (.iconst (-1), 1) := by decide +kernel
theorem dX10_clashes_20 : decode cX10_clashes 20 = .ok (.goto 21, 3) := by decide +kernel
theorem dX10_clashes_23 : decode cX10_clashes 23 = .ok (.aload_n 0, 1) := by decide +kernel
theorem dX10_clashes_24 : decode cX10_clashes 24 = .ok (.getfield 10, 3) := by decide +kernel
theorem dX10_clashes_27 : decode cX10_clashes 27 = .ok (.getfield 157, 3) := by decide +kernel
theorem dX10_clashes_30 : decode cX10_clashes 30 = .ok (.iload_n 1, 1) := by decide +kernel
theorem dX10_clashes_31 : decode cX10_clashes 31 = .ok (.aload_n 0, 1) := by decide +kernel
theorem dX10_clashes_32 : decode cX10_clashes 32 = .ok (.getfield 10, 3) := by decide +kernel
theorem dX10_clashes_35 : decode cX10_clashes 35 = .ok (.getfield 221, 3) := by decide +kernel
theorem dX10_clashes_38 : decode cX10_clashes 38 = .ok (.invokevirtual 224, 3) := by decide +kernel
theorem dX10_clashes_41 : decode cX10_clashes 41 = .ok (.ireturn, 1) := by decide +kernel
theorem dX10_canon_0 : decode cX10_canon 0 = .ok (.iload_n 1, 1) := by decide +kernel
theorem dX10_canon_1 : decode cX10_canon 1 = .ok (.ifCond .ge 5, 3) := by decide +kernel
theorem dX10_canon_4 : decode cX10_canon 4 = .ok (.iconst (-1), 1) := by decide +kernel
theorem dX10_canon_5 : decode cX10_canon 5 = .ok (.ireturn, 1) := by decide +kernel
theorem dX10_canon_6 : decode cX10_canon 6 = .ok (.iconst 0, 1) := by decide +kernel
theorem dX10_canon_7 : decode cX10_canon 7 = .ok (.istore_n 2, 1) := by decide +kernel
theorem dX10_canon_8 : decode cX10_canon 8 = .ok (.iconst 1, 1) := by decide +kernel
theorem dX10_canon_9 : decode cX10_canon 9 = .ok (.istore_n 3, 1) := by decide +kernel
theorem dX10_canon_10 : decode cX10_canon 10 = .ok (.iload_n 3, 1) := by decide +kernel
theorem dX10_canon_11 : decode cX10_canon 11 = .ok (.aload_n 0, 1) := by decide +kernel
theorem dX10_canon_12 : decode cX10_canon 12 = .ok (.getfield 10, 3) := by decide +kernel
theorem dX10_canon_15 : decode cX10_canon 15 = .ok (.getfield 157, 3) := by decide +kernel
theorem dX10_canon_18 : decode cX10_canon 18 = .ok (.getfield 161, 3) := by decide +kernel
theorem dX10_canon_21 : decode cX10_canon 21 = .ok (.if_icmp .ge 40, 3) := by decide +kernel
theorem dX10_canon_24 : decode cX10_canon 24 = .ok (.aload_n 0, 1) := by decide +kernel
theorem dX10_canon_25 : decode cX10_canon 25 = .ok (.getfield 10, 3) := by decide +kernel
theorem dX10_canon_28 : decode cX10_canon 28 = .ok (.getfield 157, 3) := by decide +kernel
theorem dX10_canon_31 : decode cX10_canon 31 = .ok (.iload_n 3, 1) := by decide +kernel
theorem dX10_canon_32 : decode cX10_canon 32 = .ok (.aload_n 0, 1) := by decide +kernel
theorem dX10_canon_33 : decode cX10_canon 33 = .ok (.getfield 10, 3) := by decide +kernel
theorem dX10_canon_36 : decode cX10_canon 36 = .ok (.getfield 221, 3) := by decide +kernel
theorem dX10_canon_39 : decode cX10_canon 39 = .ok (.invokevirtual 224, 3) := by decide +kernel
theorem dX10_canon_42 : decode cX10_canon 42 = .ok (.ifCond .ne 13, 3) := by decide +kernel
theorem dX10_canon_45 : decode cX10_canon 45 = .ok (.iload_n 2, 1) := by decide +kernel
theorem dX10_canon_46 : decode cX10_canon 46 = .ok (.iload_n 1, 1) := by decide +kernel
theorem dX10_canon_47 : decode cX10_canon 47 = .ok (.if_icmp .ne 5, 3) := by decide +kernel
theorem dX10_canon_50 : decode cX10_canon 50 = .ok (.iload_n 3, 1) := by decide +kernel
theorem dX10_canon_51 : decode cX10_canon 51 = .ok (.ireturn, 1) := by decide +kernel
theorem dX10_canon_52 : decode cX10_canon 52 = .ok (.iinc 2 1, 3) := by decide +kernel
theorem dX10_canon_55 : decode cX10_canon 55 = .ok (.iinc 3 1, 3) := by decide +kernel
theorem dX10_canon_58 : decode cX10_canon 58 = .ok (.goto (-48), 3) := by decide +kernel
theorem dX10_canon_61 : decode cX10_canon 61 = .ok (.bipush (-4), 2) := by decide +kernel
theorem dX10_canon_63 : decode cX10_canon 63 = .ok (.ireturn, 1) := by decide +kernel
theorem dX10_sea_0 : decode cX10_sea 0 = .ok (.iload_n 1, 1) := by decide +kernel
theorem dX10_sea_1 : decode cX10_sea 1 = .ok (.iconst 1, 1) := by decide +kernel
theorem dX10_sea_2 : decode cX10_sea 2 = .ok (.if_icmp .lt 20, 3) := by decide +kernel
theorem dX10_sea_5 : decode cX10_sea 5 = .ok (.iload_n 1, 1) := by decide +kernel
theorem dX10_sea_6 : decode cX10_sea 6 = .ok (.bipush 63, 2) := by decide +kernel
theorem dX10_sea_8 : decode cX10_sea 8 = .ok (.if_icmp .gt 14, 3) := by decide +kernel
theorem dX10_sea_11 : decode cX10_sea 11 = .ok (.iload_n 2, 1) := by decide +kernel
theorem dX10_sea_12 : decode cX10_sea 12 = .ok (.iconst 1, 1) := by decide +kernel
theorem dX10_sea_13 : decode cX10_sea 13 = .ok (.if_icmp .lt 9, 3) := by decide +kernel
theorem dX10_sea_16 : decode cX10_sea 16 = .ok (.iload_n 2, 1) := by decide +kernel
theorem dX10_sea_17 : decode cX10_sea 17 = .ok (.ldc 227, 2) := by decide +kernel
theorem dX10_sea_19 : decode cX10_sea 19 = .ok (.if_icmp .le 5, 3) := by decide +kernel
theorem dX10_sea_22 : decode cX10_sea 22 = .ok (.iconst (-1), 1) := by decide +kernel
theorem dX10_sea_23 : decode cX10_sea 23 = .ok (.ireturn, 1) := by decide +kernel
theorem dX10_sea_24 : decode cX10_sea 24 = .ok (.iload_n 2, 1) := by decide +kernel
theorem dX10_sea_25 : decode cX10_sea 25 = .ok (.iload_n 1, 1) := by decide +kernel
theorem dX10_sea_26 : decode cX10_sea 26 = .ok (.irem, 1) := by decide +kernel
theorem dX10_sea_27 : decode cX10_sea 27 = .ok (.ifCond .ne 12, 3) := by decide +kernel
theorem dX10_sea_30 : decode cX10_sea 30 = .ok (.iload_n 2, 1) := by decide +kernel
theorem dX10_sea_31 : decode cX10_sea 31 = .ok (.iload_n 1, 1) := by decide +kernel
theorem dX10_sea_32 : decode cX10_sea 32 = .ok (.idiv, 1) := by decide +kernel
theorem dX10_sea_33 : decode cX10_sea 33 = .ok (.sipush 2000, 3) := by decide +kernel
theorem dX10_sea_36 : decode cX10_sea 36 = .ok (.if_icmp .le 8, 3) := by decide +kernel
theorem dX10_sea_39 : decode cX10_sea 39 = .ok (.bipush (-4), 2) := by decide +kernel
theorem dX10_sea_41 : decode cX10_sea 41 = .ok (.goto 6, 3) := by decide +kernel
theorem dX10_sea_44 : decode cX10_sea 44 = .ok (.iload_n 2, 1) := by decide +kernel
theorem dX10_sea_45 : decode cX10_sea 45 = .ok (.iload_n 1, 1) := by decide +kernel
theorem dX10_sea_46 : decode cX10_sea 46 = .ok (.idiv, 1) := by decide +kernel
theorem dX10_sea_47 : decode cX10_sea 47 = .ok (.ireturn, 1) := by decide +kernel
theorem dX10_lose_0 : decode cX10_lose 0 = .ok (.iload_n 1, 1) := by decide +kernel
theorem dX10_lose_1 : decode cX10_lose 1 = .ok (.iconst 1, 1) := by decide +kernel
theorem dX10_lose_2 : decode cX10_lose 2 = .ok (.if_icmp .lt 24, 3) := by decide +kernel
theorem dX10_lose_5 : decode cX10_lose 5 = .ok (.iload_n 1, 1) := by decide +kernel
theorem dX10_lose_6 : decode cX10_lose 6 = .ok (.bipush 7, 2) := by decide +kernel
theorem dX10_lose_8 : decode cX10_lose 8 = .ok (.if_icmp .gt 18, 3) := by decide +kernel
theorem dX10_lose_11 : decode cX10_lose 11 = .ok (.aload_n 0, 1) := by decide +kernel
theorem dX10_lose_12 : decode cX10_lose 12 = .ok (.getfield 10, 3) := by decide +kernel
theorem dX10_lose_15 : decode cX10_lose 15 = .ok (.getfield 62, 3) := by decide +kernel
theorem dX10_lose_18 : decode cX10_lose 18 = .ok (.iload_n 2, 1) := by decide +kernel
theorem dX10_lose_19 : decode cX10_lose 19 = .ok (.iload_n 3, 1) := by decide +kernel
theorem dX10_lose_20 : decode cX10_lose 20 = .ok (.invokevirtual 88, 3) := by decide +kernel
theorem dX10_lose_23 : decode cX10_lose 23 = .ok (.ifCond .ne 5, 3) := by decide +kernel
theorem dX10_lose_26 : decode cX10_lose 26 = .ok (.iconst (-1), 1) := by decide +kernel
theorem dX10_lose_27 : decode cX10_lose 27 = .ok (.ireturn, 1) := by decide +kernel
theorem dX10_lose_28 : decode cX10_lose 28 = .ok (.aload_n 0, 1) := by decide +kernel
theorem dX10_lose_29 : decode cX10_lose 29 = .ok (.getfield 10, 3) := by decide +kernel
theorem dX10_lose_32 : decode cX10_lose 32 = .ok (.getfield 62, 3) := by decide +kernel
theorem dX10_lose_35 : decode cX10_lose 35 = .ok (.iload_n 1, 1) := by decide +kernel
theorem dX10_lose_36 : decode cX10_lose 36 = .ok (.iload_n 2, 1) := by decide +kernel
theorem dX10_lose_37 : decode cX10_lose 37 = .ok (.iload_n 3, 1) := by decide +kernel
theorem dX10_lose_38 : decode cX10_lose 38 = .ok (.iload 4, 2) := by decide +kernel
theorem dX10_lose_40 : decode cX10_lose 40 = .ok (.invokevirtual 228, 3) := by decide +kernel
theorem dX10_lose_43 : decode cX10_lose 43 = .ok (.ireturn, 1) := by decide +kernel
theorem dX10_goes_0 : decode cX10_goes 0 = .ok (.aload_n 0, 1) := by decide +kernel
theorem dX10_goes_1 : decode cX10_goes 1 = .ok (.getfield 10, 3) := by decide +kernel
theorem dX10_goes_4 : decode cX10_goes 4 = .ok (.getfield 62, 3) := by decide +kernel
theorem dX10_goes_7 : decode cX10_goes 7 = .ok (.iload_n 1, 1) := by decide +kernel
theorem dX10_goes_8 : decode cX10_goes 8 = .ok (.invokevirtual 76, 3) := by decide +kernel
theorem dX10_goes_11 : decode cX10_goes 11 = .ok (.ifCond .eq 13, 3) := by decide +kernel
theorem dX10_goes_14 : decode cX10_goes 14 = .ok (.iload_n 2, 1) := by decide +kernel
theorem dX10_goes_15 : decode cX10_goes 15 = .ok (.ifCond .lt 9, 3) := by decide +kernel
theorem dX10_goes_18 : decode cX10_goes 18 = .ok (.iload_n 2, 1) := by decide +kernel
theorem dX10_goes_19 : decode cX10_goes 19 = .ok (.bipush 7, 2) := by decide +kernel
theorem dX10_goes_21 : decode cX10_goes 21 = .ok (.if_icmp .le 5, 3) := by decide +kernel
theorem dX10_goes_24 : decode cX10_goes 24 = .ok (.iconst (-1), 1) := by decide +kernel
theorem dX10_goes_25 : decode cX10_goes 25 = .ok (.ireturn, 1) := by decide +kernel
theorem dX10_goes_26 : decode cX10_goes 26 = .ok (.aload_n 0, 1) := by decide +kernel
theorem dX10_goes_27 : decode cX10_goes 27 = .ok (.getfield 10, 3) := by decide +kernel
theorem dX10_goes_30 : decode cX10_goes 30 = .ok (.getfield 62, 3) := by decide +kernel
theorem dX10_goes_33 : decode cX10_goes 33 = .ok (.invokevirtual 232, 3) := by decide +kernel
theorem dX10_goes_36 : decode cX10_goes 36 = .ok (.istore_n 3, 1) := by decide +kernel
theorem dX10_goes_37 : decode cX10_goes 37 = .ok (.aload_n 0, 1) := by decide +kernel
theorem dX10_goes_38 : decode cX10_goes 38 = .ok (.getfield 51, 3) := by decide +kernel
theorem dX10_goes_41 : decode cX10_goes 41 = .ok (.aload_n 0, 1) := by decide +kernel
theorem dX10_goes_42 : decode cX10_goes 42 = .ok (.getfield 10, 3) := by decide +kernel
theorem dX10_goes_45 : decode cX10_goes 45 = .ok (.getfield 62, 3) := by decide +kernel
theorem dX10_goes_48 : decode cX10_goes 48 = .ok (.iload_n 2, 1) := by decide +kernel
theorem dX10_goes_49 : decode cX10_goes 49 = .ok (.invokevirtual 235, 3) := by decide +kernel
theorem dX10_goes_52 : decode cX10_goes 52 = .ok (.aload_n 0, 1) := by decide +kernel
theorem dX10_goes_53 : decode cX10_goes 53 = .ok (.getfield 10, 3) := by decide +kernel
theorem dX10_goes_56 : decode cX10_goes 56 = .ok (.getfield 62, 3) := by decide +kernel
theorem dX10_goes_59 : decode cX10_goes 59 = .ok (.iload_n 1, 1) := by decide +kernel
theorem dX10_goes_60 : decode cX10_goes 60 = .ok (.invokevirtual 176, 3) := by decide +kernel
theorem dX10_goes_63 : decode cX10_goes 63 = .ok (.ifCond .ne 18, 3) := by decide +kernel
theorem dX10_goes_66 : decode cX10_goes 66 = .ok (.iload_n 3, 1) := by decide +kernel
theorem dX10_goes_67 : decode cX10_goes 67 = .ok (.aload_n 0, 1) := by decide +kernel
theorem dX10_goes_68 : decode cX10_goes 68 = .ok (.getfield 51, 3) := by decide +kernel
theorem dX10_goes_71 : decode cX10_goes 71 = .ok (.iload_n 1, 1) := by decide +kernel
theorem dX10_goes_72 : decode cX10_goes 72 = .ok (.invokevirtual 238, 3) := by decide +kernel
theorem dX10_goes_75 : decode cX10_goes 75 = .ok (.iconst (-1), 1) := by decide +kernel
theorem dX10_goes_76 : decode cX10_goes 76 = .ok (.ixor, 1) := by decide +kernel
theorem dX10_goes_77 : decode cX10_goes 77 = .ok (.iand, 1) := by decide +kernel
theorem dX10_goes_78 : decode cX10_goes 78 = .ok (.ifCond .eq 6, 3) := by decide +kernel
theorem dX10_goes_81 : decode cX10_goes 81 = .ok (.bipush (-4), 2) := by decide +kernel
theorem dX10_goes_83 : decode cX10_goes 83 = .ok (.ireturn, 1) := by decide +kernel
theorem dX10_goes_84 : decode cX10_goes 84 = .ok (.aload_n 0, 1) := by decide +kernel
theorem dX10_goes_85 : decode cX10_goes 85 = .ok (.getfield 10, 3) := by decide +kernel
theorem dX10_goes_88 : decode cX10_goes 88 = .ok (.getfield 157, 3) := by decide +kernel
theorem dX10_goes_91 : decode cX10_goes 91 = .ok (.aload_n 0, 1) := by decide +kernel
theorem dX10_goes_92 : decode cX10_goes 92 = .ok (.getfield 10, 3) := by decide +kernel
theorem dX10_goes_95 : decode cX10_goes 95 = .ok (.getfield 62, 3) := by decide +kernel
theorem dX10_goes_98 : decode cX10_goes 98 = .ok (.iload_n 3, 1) := by decide +kernel
theorem dX10_goes_99 : decode cX10_goes 99 = .ok (.invokevirtual 241, 3) := by decide +kernel
theorem dX10_goes_102 : decode cX10_goes 102 = .ok (.invokevirtual 244, 3) := by decide +kernel
theorem dX10_goes_105 : decode cX10_goes 105 = .ok (.ireturn, 1) := by decide +kernel
theorem dX10_knows_0 : decode cX10_knows 0 = .ok (.aload_n 0, 1) := by decide +kernel
theorem dX10_knows_1 : decode cX10_knows 1 = .ok (.getfield 10, 3) := by decide +kernel
theorem dX10_knows_4 : decode cX10_knows 4 = .ok (.getfield 62, 3) := by decide +kernel
theorem dX10_knows_7 : decode cX10_knows 7 = .ok (.iload_n 1, 1) := by decide +kernel
theorem dX10_knows_8 : decode cX10_knows 8 = .ok (.invokevirtual 76, 3) := by decide +kernel
theorem dX10_knows_11 : decode cX10_knows 11 = .ok (.ifCond .eq 13, 3) := by decide +kernel
theorem dX10_knows_14 : decode cX10_knows 14 = .ok (.iload_n 2, 1) := by decide +kernel
theorem dX10_knows_15 : decode cX10_knows 15 = .ok (.ifCond .lt 9, 3) := by decide +kernel
theorem dX10_knows_18 : decode cX10_knows 18 = .ok (.iload_n 2, 1) := by decide +kernel
theorem dX10_knows_19 : decode cX10_knows 19 = .ok (.bipush 7, 2) := by decide +kernel
theorem dX10_knows_21 : decode cX10_knows 21 = .ok (.if_icmp .le 5, 3) := by decide +kernel
theorem dX10_knows_24 : decode cX10_knows 24 = .ok (.iconst (-1), 1) := by decide +kernel
theorem dX10_knows_25 : decode cX10_knows 25 = .ok (.ireturn, 1) := by decide +kernel
theorem dX10_knows_26 : decode cX10_knows 26 = .ok (.aload_n 0, 1) := by decide +kernel
theorem dX10_knows_27 : decode cX10_knows 27 = .ok (.getfield 51, 3) := by decide +kernel
theorem dX10_knows_30 : decode cX10_knows 30 = .ok (.aload_n 0, 1) := by decide +kernel
theorem dX10_knows_31 : decode cX10_knows 31 = .ok (.getfield 10, 3) := by decide +kernel
theorem dX10_knows_34 : decode cX10_knows 34 = .ok (.getfield 62, 3) := by decide +kernel
theorem dX10_knows_37 : decode cX10_knows 37 = .ok (.iload_n 2, 1) := by decide +kernel
theorem dX10_knows_38 : decode cX10_knows 38 = .ok (.invokevirtual 235, 3) := by decide +kernel
theorem dX10_knows_41 : decode cX10_knows 41 = .ok (.aload_n 0, 1) := by decide +kernel
theorem dX10_knows_42 : decode cX10_knows 42 = .ok (.getfield 51, 3) := by decide +kernel
theorem dX10_knows_45 : decode cX10_knows 45 = .ok (.iload_n 1, 1) := by decide +kernel
theorem dX10_knows_46 : decode cX10_knows 46 = .ok (.invokevirtual 238, 3) := by decide +kernel
theorem dX10_knows_49 : decode cX10_knows 49 = .ok (.ireturn, 1) := by decide +kernel
theorem dX10_loss_0 : decode cX10_loss 0 = .ok (.lload_n 1, 1) := by decide +kernel
theorem dX10_loss_1 : decode cX10_loss 1 = .ok (.ldc2_w 247, 3) := by decide +kernel
theorem dX10_loss_4 : decode cX10_loss 4 = .ok (.land, 1) := by decide +kernel
theorem dX10_loss_5 : decode cX10_loss 5 = .ok (.lconst 0, 1) := by decide +kernel
theorem dX10_loss_6 : decode cX10_loss 6 = .ok (.lcmp, 1) := by decide +kernel
theorem dX10_loss_7 : decode cX10_loss 7 = .ok (.ifCond .eq 5, 3) := by decide +kernel
theorem dX10_loss_10 : decode cX10_loss 10 = .ok (.iconst (-1), 1) := by decide +kernel
theorem dX10_loss_11 : decode cX10_loss 11 = .ok (.ireturn, 1) := by decide +kernel
theorem dX10_loss_12 : decode cX10_loss 12 = .ok (.aload_n 0, 1) := by decide +kernel
theorem dX10_loss_13 : decode cX10_loss 13 = .ok (.getfield 10, 3) := by decide +kernel
theorem dX10_loss_16 : decode cX10_loss 16 = .ok (.getfield 169, 3) := by decide +kernel
theorem dX10_loss_19 : decode cX10_loss 19 = .ok (.getfield 173, 3) := by decide +kernel
theorem dX10_loss_22 : decode cX10_loss 22 = .ok (.bipush 8, 2) := by decide +kernel
theorem dX10_loss_24 : decode cX10_loss 24 = .ok (.if_icmp .ne 8, 3) := by decide +kernel
theorem dX10_loss_27 : decode cX10_loss 27 = .ok (.bipush (-3), 2) := by decide +kernel
theorem dX10_loss_29 : decode cX10_loss 29 = .ok (.goto 14, 3) := by decide +kernel
theorem dX10_loss_32 : decode cX10_loss 32 = .ok (.aload_n 0, 1) := by decide +kernel
theorem dX10_loss_33 : decode cX10_loss 33 = .ok (.getfield 10, 3) := by decide +kernel
theorem dX10_loss_36 : decode cX10_loss 36 = .ok (.getfield 169, 3) := by decide +kernel
theorem dX10_loss_39 : decode cX10_loss 39 = .ok (.lload_n 1, 1) := by decide +kernel
theorem dX10_loss_40 : decode cX10_loss 40 = .ok (.invokevirtual 249, 3) := by decide +kernel
theorem dX10_loss_43 : decode cX10_loss 43 = .ok (.ireturn, 1) := by decide +kernel
theorem dX10_lost_0 : decode cX10_lost 0 = .ok (.iload_n 1, 1) := by decide +kernel
theorem dX10_lost_1 : decode cX10_lost 1 = .ok (.ifCond .lt 28, 3) := by decide +kernel
theorem dX10_lost_4 : decode cX10_lost 4 = .ok (.iload_n 1, 1) := by decide +kernel
theorem dX10_lost_5 : decode cX10_lost 5 = .ok (.aload_n 0, 1) := by decide +kernel
theorem dX10_lost_6 : decode cX10_lost 6 = .ok (.getfield 10, 3) := by decide +kernel
theorem dX10_lost_9 : decode cX10_lost 9 = .ok (.getfield 169, 3) := by decide +kernel
theorem dX10_lost_12 : decode cX10_lost 12 = .ok (.getfield 173, 3) := by decide +kernel
theorem dX10_lost_15 : decode cX10_lost 15 = .ok (.if_icmp .ge 14, 3) := by decide +kernel
theorem dX10_lost_18 : decode cX10_lost 18 = .ok (.iload_n 2, 1) := by decide +kernel
theorem dX10_lost_19 : decode cX10_lost 19 = .ok (.iconst 1, 1) := by decide +kernel
theorem dX10_lost_20 : decode cX10_lost 20 = .ok (.if_icmp .lt 9, 3) := by decide +kernel
theorem dX10_lost_23 : decode cX10_lost 23 = .ok (.iload_n 2, 1) := by decide +kernel
theorem dX10_lost_24 : decode cX10_lost 24 = .ok (.bipush 12, 2) := by decide +kernel
theorem dX10_lost_26 : decode cX10_lost 26 = .ok (.if_icmp .le 5, 3) := by decide +kernel
theorem dX10_lost_29 : decode cX10_lost 29 = .ok (.iconst (-1), 1) := by decide +kernel
theorem dX10_lost_30 : decode cX10_lost 30 = .ok (.ireturn, 1) := by decide +kernel
theorem dX10_lost_31 : decode cX10_lost 31 = .ok (.aload_n 0, 1) := by decide +kernel
theorem dX10_lost_32 : decode cX10_lost 32 = .ok (.getfield 10, 3) := by decide +kernel
theorem dX10_lost_35 : decode cX10_lost 35 = .ok (.getfield 169, 3) := by decide +kernel
theorem dX10_lost_38 : decode cX10_lost 38 = .ok (.iload_n 1, 1) := by decide +kernel
theorem dX10_lost_39 : decode cX10_lost 39 = .ok (.iload_n 2, 1) := by decide +kernel
theorem dX10_lost_40 : decode cX10_lost 40 = .ok (.invokevirtual 252, 3) := by decide +kernel
theorem dX10_lost_43 : decode cX10_lost 43 = .ok (.ireturn, 1) := by decide +kernel
theorem dX10_group_0 : decode cX10_group 0 = .ok (.bipush 12, 2) := by decide +kernel
theorem dX10_group_2 : decode cX10_group 2 = .ok (.istore_n 1, 1) := by decide +kernel
theorem dX10_group_3 : decode cX10_group 3 = .ok (.iload_n 1, 1) := by decide +kernel
theorem dX10_group_4 : decode cX10_group 4 = .ok (.iconst 1, 1) := by decide +kernel
theorem dX10_group_5 : decode cX10_group 5 = .ok (.if_icmp .lt 25, 3) := by decide +kernel
theorem dX10_group_8 : decode cX10_group 8 = .ok (.aload_n 0, 1) := by decide +kernel
theorem dX10_group_9 : decode cX10_group 9 = .ok (.getfield 10, 3) := by decide +kernel
theorem dX10_group_12 : decode cX10_group 12 = .ok (.getfield 169, 3) := by decide +kernel
theorem dX10_group_15 : decode cX10_group 15 = .ok (.iload_n 1, 1) := by decide +kernel
theorem dX10_group_16 : decode cX10_group 16 = .ok (.invokevirtual 255, 3) := by decide +kernel
theorem dX10_group_19 : decode cX10_group 19 = .ok (.ifCond .eq 5, 3) := by decide +kernel
theorem dX10_group_22 : decode cX10_group 22 = .ok (.iload_n 1, 1) := by decide +kernel
theorem dX10_group_23 : decode cX10_group 23 = .ok (.ireturn, 1) := by decide +kernel
theorem dX10_group_24 : decode cX10_group 24 = .ok (.iinc 1 (-1), 3) := by decide +kernel
theorem dX10_group_27 : decode cX10_group 27 = .ok (.goto (-24), 3) := by decide +kernel
theorem dX10_group_30 : decode cX10_group 30 = .ok (.bipush (-4), 2) := by decide +kernel
theorem dX10_group_32 : decode cX10_group 32 = .ok (.ireturn, 1) := by decide +kernel
theorem dX10_clear_0 : decode cX10_clear 0 = .ok (.aload_n 0, 1) := by decide +kernel
theorem dX10_clear_1 : decode cX10_clear 1 = .ok (.getfield 10, 3) := by decide +kernel
theorem dX10_clear_4 : decode cX10_clear 4 = .ok (.getfield 169, 3) := by decide +kernel
theorem dX10_clear_7 : decode cX10_clear 7 = .ok (.getfield 173, 3) := by decide +kernel
theorem dX10_clear_10 : decode cX10_clear 10 = .ok (.istore_n 1, 1) := by decide +kernel
theorem dX10_clear_11 : decode cX10_clear 11 = .ok (.aload_n 0, 1) := by decide +kernel
theorem dX10_clear_12 : decode cX10_clear 12 = .ok (.getfield 10, 3) := by decide +kernel
theorem dX10_clear_15 : decode cX10_clear 15 = .ok (.getfield 169, 3) := by decide +kernel
theorem dX10_clear_18 : decode cX10_clear 18 = .ok (.iconst 0, 1) := by decide +kernel
theorem dX10_clear_19 : decode cX10_clear 19 = .ok (.putfield 173, 3) := by decide +kernel
theorem dX10_clear_22 : decode cX10_clear 22 = .ok (.iload_n 1, 1) := by decide +kernel
theorem dX10_clear_23 : decode cX10_clear 23 = .ok (.ireturn, 1) := by decide +kernel
theorem dX10_most_0 : decode cX10_most 0 = .ok (.iload_n 1, 1) := by decide +kernel
theorem dX10_most_1 : decode cX10_most 1 = .ok (.iconst 1, 1) := by decide +kernel
theorem dX10_most_2 : decode cX10_most 2 = .ok (.if_icmp .lt 9, 3) := by decide +kernel
theorem dX10_most_5 : decode cX10_most 5 = .ok (.iload_n 1, 1) := by decide +kernel
theorem dX10_most_6 : decode cX10_most 6 = .ok (.bipush 7, 2) := by decide +kernel
theorem dX10_most_8 : decode cX10_most 8 = .ok (.if_icmp .le 5, 3) := by decide +kernel
theorem dX10_most_11 : decode cX10_most 11 = .ok (.iconst (-1), 1) := by decide +kernel
theorem dX10_most_12 : decode cX10_most 12 = .ok (.ireturn, 1) := by decide +kernel
theorem dX10_most_13 : decode cX10_most 13 = .ok (.aload_n 0, 1) := by decide +kernel
theorem dX10_most_14 : decode cX10_most 14 = .ok (.getfield 10, 3) := by decide +kernel
theorem dX10_most_17 : decode cX10_most 17 = .ok (.getfield 62, 3) := by decide +kernel
theorem dX10_most_20 : decode cX10_most 20 = .ok (.getfield 258, 3) := by decide +kernel
theorem dX10_most_23 : decode cX10_most 23 = .ok (.istore_n 2, 1) := by decide +kernel
theorem dX10_most_24 : decode cX10_most 24 = .ok (.aload_n 0, 1) := by decide +kernel
theorem dX10_most_25 : decode cX10_most 25 = .ok (.getfield 10, 3) := by decide +kernel
theorem dX10_most_28 : decode cX10_most 28 = .ok (.getfield 62, 3) := by decide +kernel
theorem dX10_most_31 : decode cX10_most 31 = .ok (.iload_n 1, 1) := by decide +kernel
theorem dX10_most_32 : decode cX10_most 32 = .ok (.putfield 258, 3) := by decide +kernel
theorem dX10_most_35 : decode cX10_most 35 = .ok (.iload_n 2, 1) := by decide +kernel
theorem dX10_most_36 : decode cX10_most 36 = .ok (.ireturn, 1) := by decide +kernel
theorem dX10_net_0 : decode cX10_net 0 = .ok (.aload_n 0, 1) := by decide +kernel
theorem dX10_net_1 : decode cX10_net 1 = .ok (.getfield 10, 3) := by decide +kernel
theorem dX10_net_4 : decode cX10_net 4 = .ok (.getfield 62, 3) := by decide +kernel
theorem dX10_net_7 : decode cX10_net 7 = .ok (.invokevirtual 232, 3) := by decide +kernel
theorem dX10_net_10 : decode cX10_net 10 = .ok (.invokestatic 149, 3) := by decide +kernel
theorem dX10_net_13 : decode cX10_net 13 = .ok (.istore_n 1, 1) := by decide +kernel
theorem dX10_net_14 : decode cX10_net 14 = .ok (.iload_n 1, 1) := by decide +kernel
theorem dX10_net_15 : decode cX10_net 15 = .ok (.iconst 2, 1) := by decide +kernel
theorem dX10_net_16 : decode cX10_net 16 = .ok (.if_icmp .lt 9, 3) := by decide +kernel
theorem dX10_net_19 : decode cX10_net 19 = .ok (.iload_n 1, 1) := by decide +kernel
theorem dX10_net_20 : decode cX10_net 20 = .ok (.bipush 6, 2) := by decide +kernel
theorem dX10_net_22 : decode cX10_net 22 = .ok (.if_icmp .le 8, 3) := by decide +kernel
theorem dX10_net_25 : decode cX10_net 25 = .ok (.bipush (-2), 2) := by decide +kernel
theorem dX10_net_27 : decode cX10_net 27 = .ok (.goto 17, 3) := by decide +kernel
theorem dX10_net_30 : decode cX10_net 30 = .ok (.aload_n 0, 1) := by decide +kernel
theorem dX10_net_31 : decode cX10_net 31 = .ok (.getfield 58, 3) := by decide +kernel
theorem dX10_net_34 : decode cX10_net 34 = .ok (.aload_n 0, 1) := by decide +kernel
theorem dX10_net_35 : decode cX10_net 35 = .ok (.getfield 10, 3) := by decide +kernel
theorem dX10_net_38 : decode cX10_net 38 = .ok (.getfield 62, 3) := by decide +kernel
theorem dX10_net_41 : decode cX10_net 41 = .ok (.invokevirtual 261, 3) := by decide +kernel
theorem dX10_net_44 : decode cX10_net 44 = .ok (.ireturn, 1) := by decide +kernel
theorem dX10_image_0 : decode cX10_image 0 = .ok (.iload_n 1, 1) := by decide +kernel
theorem dX10_image_1 : decode cX10_image 1 = .ok (.ifCond .lt 8, 3) := by decide +kernel
theorem dX10_image_4 : decode cX10_image 4 = .ok (.iload_n 1, 1) := by decide +kernel
theorem dX10_image_5 : decode cX10_image 5 = .ok (.iconst 2, 1) := by decide +kernel
theorem dX10_image_6 : decode cX10_image 6 = .ok (.if_icmp .lt 5, 3) := by decide +kernel
theorem dX10_image_9 : decode cX10_image 9 = .ok (.iconst (-1), 1) := by decide +kernel
theorem dX10_image_10 : decode cX10_image 10 = .ok (.ireturn, 1) := by decide +kernel
theorem dX10_image_11 : decode cX10_image 11 = .ok (.aload_n 0, 1) := by decide +kernel
theorem dX10_image_12 : decode cX10_image 12 = .ok (.getfield 16, 3) := by decide +kernel
theorem dX10_image_15 : decode cX10_image 15 = .ok (.iload_n 1, 1) := by decide +kernel
theorem dX10_image_16 : decode cX10_image 16 = .ok (.aaload, 1) := by decide +kernel
theorem dX10_image_17 : decode cX10_image 17 = .ok (.ifnonnull 16, 3) := by decide +kernel
theorem dX10_image_20 : decode cX10_image 20 = .ok (.aload_n 0, 1) := by decide +kernel
theorem dX10_image_21 : decode cX10_image 21 = .ok (.getfield 16, 3) := by decide +kernel
theorem dX10_image_24 : decode cX10_image 24 = .ok (.iload_n 1, 1) := by decide +kernel
theorem dX10_image_25 : decode cX10_image 25 = .ok (.new 7, 3) := by decide +kernel
theorem dX10_image_28 : decode cX10_image 28 = .ok (.dup, 1) := by decide +kernel
theorem dX10_image_29 : decode cX10_image 29 = .ok (.invokespecial 9, 3) := by decide +kernel
theorem dX10_image_32 : decode cX10_image 32 = .ok (.aastore, 1) := by decide +kernel
theorem dX10_image_33 : decode cX10_image 33 = .ok (.aload_n 0, 1) := by decide +kernel
theorem dX10_image_34 : decode cX10_image 34 = .ok (.getfield 16, 3) := by decide +kernel
theorem dX10_image_37 : decode cX10_image 37 = .ok (.iload_n 1, 1) := by decide +kernel
theorem dX10_image_38 : decode cX10_image 38 = .ok (.aaload, 1) := by decide +kernel
theorem dX10_image_39 : decode cX10_image 39 = .ok (.aload_n 0, 1) := by decide +kernel
theorem dX10_image_40 : decode cX10_image 40 = .ok (.getfield 10, 3) := by decide +kernel
theorem dX10_image_43 : decode cX10_image 43 = .ok (.invokevirtual 264, 3) := by decide +kernel
theorem dX10_image_46 : decode cX10_image 46 = .ok (.iconst 1, 1) := by decide +kernel
theorem dX10_image_47 : decode cX10_image 47 = .ok (.ireturn, 1) := by decide +kernel
theorem dX10_restore_0 : decode cX10_restore 0 = .ok (.iload_n 1, 1) := by decide +kernel
theorem dX10_restore_1 : decode cX10_restore 1 = .ok (.ifCond .lt 8, 3) := by decide +kernel
theorem dX10_restore_4 : decode cX10_restore 4 = .ok (.iload_n 1, 1) := by decide +kernel
theorem dX10_restore_5 : decode cX10_restore 5 = .ok (.iconst 2, 1) := by decide +kernel
theorem dX10_restore_6 : decode cX10_restore 6 = .ok (.if_icmp .lt 5, 3) := by decide +kernel
theorem dX10_restore_9 : decode cX10_restore 9 = .ok (.iconst (-1), 1) := by decide +kernel
theorem dX10_restore_10 : decode cX10_restore 10 = .ok (.ireturn, 1) := by decide +kernel
theorem dX10_restore_11 : decode cX10_restore 11 = .ok (.aload_n 0, 1) := by decide +kernel
theorem dX10_restore_12 : decode cX10_restore 12 = .ok (.getfield 16, 3) := by decide +kernel
theorem dX10_restore_15 : decode cX10_restore 15 = .ok (.iload_n 1, 1) := by decide +kernel
theorem dX10_restore_16 : decode cX10_restore 16 = .ok (.aaload, 1) := by decide +kernel
theorem dX10_restore_17 : decode cX10_restore 17 = .ok (.ifnonnull 6, 3) := by decide +kernel
theorem dX10_restore_20 : decode cX10_restore 20 = .ok (.bipush (-4), 2) := by decide +kernel
theorem dX10_restore_22 : decode cX10_restore 22 = .ok (.ireturn, 1) := by decide +kernel
theorem dX10_restore_23 : decode cX10_restore 23 = .ok (.aload_n 0, 1) := by decide +kernel
theorem dX10_restore_24 : decode cX10_restore 24 = .ok (.getfield 10, 3) := by decide +kernel
theorem dX10_restore_27 : decode cX10_restore 27 = .ok (.aload_n 0, 1) := by decide +kernel
theorem dX10_restore_28 : decode cX10_restore 28 = .ok (.getfield 16, 3) := by decide +kernel
theorem dX10_restore_31 : decode cX10_restore 31 = .ok (.iload_n 1, 1) := by decide +kernel
theorem dX10_restore_32 : decode cX10_restore 32 = .ok (.aaload, 1) := by decide +kernel
theorem dX10_restore_33 : decode cX10_restore 33 = .ok (.invokevirtual 264, 3) := by decide +kernel
theorem dX10_restore_36 : decode cX10_restore 36 = .ok (.iconst 1, 1) := by decide +kernel
theorem dX10_restore_37 : decode cX10_restore 37 = .ok (.ireturn, 1) := by decide +kernel
theorem dX10_sheet_0 : decode cX10_sheet 0 = .ok (.iload_n 1, 1) := by decide +kernel
theorem dX10_sheet_1 : decode cX10_sheet 1 = .ok (.invokestatic 95, 3) := by decide +kernel
theorem dX10_sheet_4 : decode cX10_sheet 4 = .ok (.ifCond .eq 16, 3) := by decide +kernel
theorem dX10_sheet_7 : decode cX10_sheet 7 = .ok (.iload_n 2, 1) := by decide +kernel
theorem dX10_sheet_8 : decode cX10_sheet 8 = .ok (.invokestatic 98, 3) := by decide +kernel
theorem dX10_sheet_11 : decode cX10_sheet 11 = .ok (.ifCond .eq 9, 3) := by decide +kernel
theorem dX10_sheet_14 : decode cX10_sheet 14 = .ok (.iload_n 3, 1) := by decide +kernel
theorem dX10_sheet_15 : decode cX10_sheet 15 = .ok (.bipush 40, 2) := by decide +kernel
theorem dX10_sheet_17 : decode cX10_sheet 17 = .ok (.if_icmp .le 5, 3) := by decide +kernel
theorem dX10_sheet_20 : decode cX10_sheet 20 = .ok (.iconst (-1), 1) := by decide +kernel
theorem dX10_sheet_21 : decode cX10_sheet 21 = .ok (.ireturn, 1) := by decide +kernel
theorem dX10_sheet_22 : decode cX10_sheet 22 = .ok (.iload_n 3, 1) := by decide +kernel
theorem dX10_sheet_23 : decode cX10_sheet 23 = .ok (.ifCond .ge 8, 3) := by decide +kernel
theorem dX10_sheet_26 : decode cX10_sheet 26 = .ok (.bipush (-14), 2) := by decide +kernel
theorem dX10_sheet_28 : decode cX10_sheet 28 = .ok (.goto 14, 3) := by decide +kernel
theorem dX10_sheet_31 : decode cX10_sheet 31 = .ok (.aload_n 0, 1) := by decide +kernel
theorem dX10_sheet_32 : decode cX10_sheet 32 = .ok (.getfield 30, 3) := by decide +kernel
theorem dX10_sheet_35 : decode cX10_sheet 35 = .ok (.iload_n 1, 1) := by decide +kernel
theorem dX10_sheet_36 : decode cX10_sheet 36 = .ok (.aaload, 1) := by decide +kernel
theorem dX10_sheet_37 : decode cX10_sheet 37 = .ok (.iload_n 2, 1) := by decide +kernel
theorem dX10_sheet_38 : decode cX10_sheet 38 = .ok (.iload_n 3, 1) := by decide +kernel
theorem dX10_sheet_39 : decode cX10_sheet 39 = .ok (.invokevirtual 267, 3) := by decide +kernel
theorem dX10_sheet_42 : decode cX10_sheet 42 = .ok (.ireturn, 1) := by decide +kernel
theorem dX10_drop_0 : decode cX10_drop 0 = .ok (.iload_n 1, 1) := by decide +kernel
theorem dX10_drop_1 : decode cX10_drop 1 = .ok (.invokestatic 95, 3) := by decide +kernel
theorem dX10_drop_4 : decode cX10_drop 4 = .ok (.ifCond .ne 5, 3) := by decide +kernel
theorem dX10_drop_7 : decode cX10_drop 7 = .ok (.iconst (-1), 1) := by decide +kernel
theorem dX10_drop_8 : decode cX10_drop 8 = .ok (.ireturn, 1) := by decide +kernel
theorem dX10_drop_9 : decode cX10_drop 9 = .ok (.aload_n 0, 1) := by decide +kernel
theorem dX10_drop_10 : decode cX10_drop 10 = .ok (.getfield 30, 3) := by decide +kernel
theorem dX10_drop_13 : decode cX10_drop 13 = .ok (.iload_n 1, 1) := by decide +kernel
theorem dX10_drop_14 : decode cX10_drop 14 = .ok (.aaload, 1) := by decide +kernel
theorem dX10_drop_15 : decode cX10_drop 15 = .ok (.getfield 270, 3) := by decide +kernel
theorem dX10_drop_18 : decode cX10_drop 18 = .ok (.iconst (-1), 1) := by decide +kernel
theorem dX10_drop_19 : decode cX10_drop 19 = .ok (.if_icmp .ne 8, 3) := by decide +kernel
theorem dX10_drop_22 : decode cX10_drop 22 = .ok (.bipush (-11), 2) := by decide +kernel
theorem dX10_drop_24 : decode cX10_drop 24 = .ok (.goto 12, 3) := by decide +kernel
theorem dX10_drop_27 : decode cX10_drop 27 = .ok (.aload_n 0, 1) := by decide +kernel
theorem dX10_drop_28 : decode cX10_drop 28 = .ok (.getfield 30, 3) := by decide +kernel
theorem dX10_drop_31 : decode cX10_drop 31 = .ok (.iload_n 1, 1) := by decide +kernel
theorem dX10_drop_32 : decode cX10_drop 32 = .ok (.aaload, 1) := by decide +kernel
theorem dX10_drop_33 : decode cX10_drop 33 = .ok (.invokevirtual 273, 3) := by decide +kernel
theorem dX10_drop_36 : decode cX10_drop 36 = .ok (.ireturn, 1) := by decide +kernel
theorem dX10_item_0 : decode cX10_item 0 = .ok (.iload_n 1, 1) := by decide +kernel
theorem dX10_item_1 : decode cX10_item 1 = .ok (.invokestatic 95, 3) := by decide +kernel
theorem dX10_item_4 : decode cX10_item 4 = .ok (.ifCond .eq 10, 3) := by decide +kernel
theorem dX10_item_7 : decode cX10_item 7 = .ok (.iload_n 2, 1) := by decide +kernel
theorem dX10_item_8 : decode cX10_item 8 = .ok (.invokestatic 98, 3) := by decide +kernel
theorem dX10_item_11 : decode cX10_item 11 = .ok (.ifCond .ne 5, 3) := by decide +kernel
theorem dX10_item_14 : decode cX10_item 14 = .ok (.iconst (-1), 1) := by decide +kernel
theorem dX10_item_15 : decode cX10_item 15 = .ok (.ireturn, 1) := by decide +kernel
theorem dX10_item_16 : decode cX10_item 16 = .ok (.aload_n 0, 1) := by decide +kernel
theorem dX10_item_17 : decode cX10_item 17 = .ok (.getfield 30, 3) := by decide +kernel
theorem dX10_item_20 : decode cX10_item 20 = .ok (.iload_n 1, 1) := by decide +kernel
theorem dX10_item_21 : decode cX10_item 21 = .ok (.aaload, 1) := by decide +kernel
theorem dX10_item_22 : decode cX10_item 22 = .ok (.iload_n 2, 1) := by decide +kernel
theorem dX10_item_23 : decode cX10_item 23 = .ok (.invokevirtual 101, 3) := by decide +kernel
theorem dX10_item_26 : decode cX10_item 26 = .ok (.istore 5, 2) := by decide +kernel
theorem dX10_item_28 : decode cX10_item 28 = .ok (.iload 5, 2) := by decide +kernel
theorem dX10_item_30 : decode cX10_item 30 = .ok (.ifCond .eq 6, 3) := by decide +kernel
theorem dX10_item_33 : decode cX10_item 33 = .ok (.iload 5, 2) := by decide +kernel
theorem dX10_item_35 : decode cX10_item 35 = .ok (.ireturn, 1) := by decide +kernel
theorem dX10_item_36 : decode cX10_item 36 = .ok (.aload_n 0, 1) := by decide +kernel
theorem dX10_item_37 : decode cX10_item 37 = .ok (.getfield 30, 3) := by decide +kernel
theorem dX10_item_40 : decode cX10_item 40 = .ok (.iload_n 1, 1) := by decide +kernel
theorem dX10_item_41 : decode cX10_item 41 = .ok (.aaload, 1) := by decide +kernel
theorem dX10_item_42 : decode cX10_item 42 = .ok (.iload_n 3, 1) := by decide +kernel
theorem dX10_item_43 : decode cX10_item 43 = .ok (.iconst 1, 1) := by decide +kernel
theorem dX10_item_44 : decode cX10_item 44 = .ok (.invokevirtual 104, 3) := by decide +kernel
theorem dX10_item_47 : decode cX10_item 47 = .ok (.ifCond .eq 18, 3) := by decide +kernel
theorem dX10_item_50 : decode cX10_item 50 = .ok (.aload_n 0, 1) := by decide +kernel
theorem dX10_item_51 : decode cX10_item 51 = .ok (.getfield 30, 3) := by decide +kernel
theorem dX10_item_54 : decode cX10_item 54 = .ok (.iload_n 1, 1) := by decide +kernel
theorem dX10_item_55 : decode cX10_item 55 = .ok (.aaload, 1) := by decide +kernel
theorem dX10_item_56 : decode cX10_item 56 = .ok (.iload_n 3, 1) := by decide +kernel
theorem dX10_item_57 : decode cX10_item 57 = .ok (.iload 4, 2) := by decide +kernel
theorem dX10_item_59 : decode cX10_item 59 = .ok (.invokevirtual 276, 3) := by decide +kernel
theorem dX10_item_62 : decode cX10_item 62 = .ok (.goto 5, 3) := by decide +kernel
theorem dX10_item_65 : decode cX10_item 65 = .ok (.bipush (-13), 2) := by decide +kernel
theorem dX10_item_67 : decode cX10_item 67 = .ok (.ireturn, 1) := by decide +kernel
theorem dX10_copy_0 : decode cX10_copy 0 = .ok (.iload_n 1, 1) := by decide +kernel
theorem dX10_copy_1 : decode cX10_copy 1 = .ok (.invokestatic 95, 3) := by decide +kernel
theorem dX10_copy_4 : decode cX10_copy 4 = .ok (.ifCond .eq 10, 3) := by decide +kernel
theorem dX10_copy_7 : decode cX10_copy 7 = .ok (.iload_n 3, 1) := by decide +kernel
theorem dX10_copy_8 : decode cX10_copy 8 = .ok (.invokestatic 95, 3) := by decide +kernel
theorem dX10_copy_11 : decode cX10_copy 11 = .ok (.ifCond .ne 5, 3) := by decide +kernel
theorem dX10_copy_14 : decode cX10_copy 14 = .ok (.iconst (-1), 1) := by decide +kernel
theorem dX10_copy_15 : decode cX10_copy 15 = .ok (.ireturn, 1) := by decide +kernel
theorem dX10_copy_16 : decode cX10_copy 16 = .ok (.aload_n 0, 1) := by decide +kernel
theorem dX10_copy_17 : decode cX10_copy 17 = .ok (.getfield 30, 3) := by decide +kernel
theorem dX10_copy_20 : decode cX10_copy 20 = .ok (.iload_n 1, 1) := by decide +kernel
theorem dX10_copy_21 : decode cX10_copy 21 = .ok (.aaload, 1) := by decide +kernel
theorem dX10_copy_22 : decode cX10_copy 22 = .ok (.astore 6, 2) := by decide +kernel
theorem dX10_copy_24 : decode cX10_copy 24 = .ok (.aload 6, 2) := by decide +kernel
theorem dX10_copy_26 : decode cX10_copy 26 = .ok (.getfield 270, 3) := by decide +kernel
theorem dX10_copy_29 : decode cX10_copy 29 = .ok (.iconst (-1), 1) := by decide +kernel
theorem dX10_copy_30 : decode cX10_copy 30 = .ok (.if_icmp .ne 6, 3) := by decide +kernel
theorem dX10_copy_33 : decode cX10_copy 33 = .ok (.bipush (-11), 2) := by decide +kernel
theorem dX10_copy_35 : decode cX10_copy 35 = .ok (.ireturn, 1) := by decide +kernel
theorem dX10_copy_36 : decode cX10_copy 36 = .ok (.aload_n 0, 1) := by decide +kernel
theorem dX10_copy_37 : decode cX10_copy 37 = .ok (.getfield 30, 3) := by decide +kernel
theorem dX10_copy_40 : decode cX10_copy 40 = .ok (.iload_n 3, 1) := by decide +kernel
theorem dX10_copy_41 : decode cX10_copy 41 = .ok (.aaload, 1) := by decide +kernel
theorem dX10_copy_42 : decode cX10_copy 42 = .ok (.aload 6, 2) := by decide +kernel
theorem dX10_copy_44 : decode cX10_copy 44 = .ok (.getfield 270, 3) := by decide +kernel
theorem dX10_copy_47 : decode cX10_copy 47 = .ok (.invokevirtual 101, 3) := by decide +kernel
theorem dX10_copy_50 : decode cX10_copy 50 = .ok (.istore 7, 2) := by decide +kernel
theorem dX10_copy_52 : decode cX10_copy 52 = .ok (.iload 7, 2) := by decide +kernel
theorem dX10_copy_54 : decode cX10_copy 54 = .ok (.ifCond .eq 6, 3) := by decide +kernel
theorem dX10_copy_57 : decode cX10_copy 57 = .ok (.iload 7, 2) := by decide +kernel
theorem dX10_copy_59 : decode cX10_copy 59 = .ok (.ireturn, 1) := by decide +kernel
theorem dX10_copy_60 : decode cX10_copy 60 = .ok (.aload 6, 2) := by decide +kernel
theorem dX10_copy_62 : decode cX10_copy 62 = .ok (.iload_n 2, 1) := by decide +kernel
theorem dX10_copy_63 : decode cX10_copy 63 = .ok (.iload 5, 2) := by decide +kernel
theorem dX10_copy_65 : decode cX10_copy 65 = .ok (.invokevirtual 104, 3) := by decide +kernel
theorem dX10_copy_68 : decode cX10_copy 68 = .ok (.ifCond .eq 19, 3) := by decide +kernel
theorem dX10_copy_71 : decode cX10_copy 71 = .ok (.aload_n 0, 1) := by decide +kernel
theorem dX10_copy_72 : decode cX10_copy 72 = .ok (.getfield 30, 3) := by decide +kernel
theorem dX10_copy_75 : decode cX10_copy 75 = .ok (.iload_n 3, 1) := by decide +kernel
theorem dX10_copy_76 : decode cX10_copy 76 = .ok (.aaload, 1) := by decide +kernel
theorem dX10_copy_77 : decode cX10_copy 77 = .ok (.iload 4, 2) := by decide +kernel
theorem dX10_copy_79 : decode cX10_copy 79 = .ok (.iload 5, 2) := by decide +kernel
theorem dX10_copy_81 : decode cX10_copy 81 = .ok (.invokevirtual 104, 3) := by decide +kernel
theorem dX10_copy_84 : decode cX10_copy 84 = .ok (.ifCond .ne 6, 3) := by decide +kernel
theorem dX10_copy_87 : decode cX10_copy 87 = .ok (.bipush (-13), 2) := by decide +kernel
theorem dX10_copy_89 : decode cX10_copy 89 = .ok (.ireturn, 1) := by decide +kernel
theorem dX10_copy_90 : decode cX10_copy 90 = .ok (.aload 6, 2) := by decide +kernel
theorem dX10_copy_92 : decode cX10_copy 92 = .ok (.getfield 279, 3) := by decide +kernel
theorem dX10_copy_95 : decode cX10_copy 95 = .ok (.iload_n 2, 1) := by decide +kernel
theorem dX10_copy_96 : decode cX10_copy 96 = .ok (.aload_n 0, 1) := by decide +kernel
theorem dX10_copy_97 : decode cX10_copy 97 = .ok (.getfield 30, 3) := by decide +kernel
theorem dX10_copy_100 : decode cX10_copy 100 = .ok (.iload_n 3, 1) := by decide +kernel
theorem dX10_copy_101 : decode cX10_copy 101 = .ok (.aaload, 1) := by decide +kernel
theorem dX10_copy_102 : decode cX10_copy 102 = .ok (.getfield 279, 3) := by decide +kernel
theorem dX10_copy_105 : decode cX10_copy 105 = .ok (.iload 4, 2) := by decide +kernel
theorem dX10_copy_107 : decode cX10_copy 107 = .ok (.iload 5, 2) := by decide +kernel
theorem dX10_copy_109 : decode cX10_copy 109 = .ok (.invokestatic 282, 3) := by decide +kernel
theorem dX10_copy_112 : decode cX10_copy 112 = .ok (.iload 5, 2) := by decide +kernel
theorem dX10_copy_114 : decode cX10_copy 114 = .ok (.ireturn, 1) := by decide +kernel
theorem dX10_isSheet_0 : decode cX10_isSheet 0 = .ok (.iload_n 0, 1) := by decide +kernel
theorem dX10_isSheet_1 : decode cX10_isSheet 1 = .ok (.ifCond .lt 12, 3) := by decide +kernel
theorem dX10_isSheet_4 : decode cX10_isSheet 4 = .ok (.iload_n 0, 1) := by decide +kernel
theorem dX10_isSheet_5 : decode cX10_isSheet 5 = .ok (.iconst 4, 1) := by decide +kernel
theorem dX10_isSheet_6 : decode cX10_isSheet 6 = .ok (.if_icmp .ge 7, 3) := by decide +kernel
theorem dX10_isSheet_9 : decode cX10_isSheet 9 = .ok (.iconst 1, 1) := by decide +kernel
theorem dX10_isSheet_10 : decode cX10_isSheet 10 = .ok (.goto 4, 3) := by decide +kernel
theorem dX10_isSheet_13 : decode cX10_isSheet 13 = .ok (.iconst 0, 1) := by decide +kernel
theorem dX10_isSheet_14 : decode cX10_isSheet 14 = .ok (.ireturn, 1) := by decide +kernel
theorem dX10_isLane_0 : decode cX10_isLane 0 = .ok (.iload_n 0, 1) := by decide +kernel
theorem dX10_isLane_1 : decode cX10_isLane 1 = .ok (.ifCond .lt 12, 3) := by decide +kernel
theorem dX10_isLane_4 : decode cX10_isLane 4 = .ok (.iload_n 0, 1) := by decide +kernel
theorem dX10_isLane_5 : decode cX10_isLane 5 = .ok (.iconst 2, 1) := by decide +kernel
theorem dX10_isLane_6 : decode cX10_isLane 6 = .ok (.if_icmp .gt 7, 3) := by decide +kernel
theorem dX10_isLane_9 : decode cX10_isLane 9 = .ok (.iconst 1, 1) := by decide +kernel
theorem dX10_isLane_10 : decode cX10_isLane 10 = .ok (.goto 4, 3) := by decide +kernel
theorem dX10_isLane_13 : decode cX10_isLane 13 = .ok (.iconst 0, 1) := by decide +kernel
theorem dX10_isLane_14 : decode cX10_isLane 14 = .ok (.ireturn, 1) := by decide +kernel
