theorem dX9_isWhat_4 : decode cX9_isWhat 4 = .ok (.invokestatic 345, 3) := by decide +kernel
theorem dX9_isWhat_7 : decode cX9_isWhat 7 = .ok (.iconst 1, 1) := by decide +kernel
theorem dX9_isWhat_8 : decode cX9_isWhat 8 = .ok (.invokevirtual 268, 3) := by decide +kernel
theorem dX9_isWhat_11 : decode cX9_isWhat 11 = .ok (.ireturn, 1) := by decide +kernel
theorem dX9_isDays_0 : decode cX9_isDays 0 = .ok (.aload_n 0, 1) := by decide +kernel
theorem dX9_isDays_1 : decode cX9_isDays 1 = .ok (.iload_n 1, 1) := by decide +kernel
theorem dX9_isDays_2 : decode cX9_isDays 2 = .ok (.iload_n 2, 1) := by decide +kernel
theorem dX9_isDays_3 : decode cX9_isDays 3 = .ok (.bipush 40, 2) := by decide +kernel
theorem dX9_isDays_5 : decode cX9_isDays 5 = .ok (.invokestatic 345, 3) := by decide +kernel
theorem dX9_isDays_8 : decode cX9_isDays 8 = .ok (.iload_n 3, 1) := by decide +kernel
theorem dX9_isDays_9 : decode cX9_isDays 9 = .ok (.invokevirtual 268, 3) := by decide +kernel
theorem dX9_isDays_12 : decode cX9_isDays 12 = .ok (.ireturn, 1) := by decide +kernel
theorem dX9_nextDoor_0 : decode cX9_nextDoor 0 = .ok (.iconst (-1), 1) := by decide +kernel
theorem dX9_nextDoor_1 : decode cX9_nextDoor 1 = .ok (.istore_n 2, 1) := by decide +kernel
theorem dX9_nextDoor_2 : decode cX9_nextDoor 2 = .ok (.iconst 0, 1) := by decide +kernel
theorem dX9_nextDoor_3 : decode cX9_nextDoor 3 = .ok (.istore_n 3, 1) := by decide +kernel
theorem dX9_nextDoor_4 : decode cX9_nextDoor 4 = .ok (.iload_n 3, 1) := by decide +kernel
theorem dX9_nextDoor_5 : decode cX9_nextDoor 5 = .ok (.aload_n 0, 1) := by decide +kernel
theorem dX9_nextDoor_6 : decode cX9_nextDoor 6 = .ok (.getfield 275, 3) := by decide +kernel
theorem dX9_nextDoor_9 : decode cX9_nextDoor 9 = .ok (.if_icmp .ge 54, 3) := by decide +kernel
theorem dX9_nextDoor_12 : decode cX9_nextDoor 12 = .ok (.iload_n 3, 1) := by decide +kernel
theorem dX9_nextDoor_13 : decode cX9_nextDoor 13 = .ok (.iload_n 1, 1) := by decide +kernel
theorem dX9_nextDoor_14 : decode cX9_nextDoor 14 = .ok (.if_icmp .eq 43, 3) := by decide +kernel
theorem dX9_nextDoor_17 : decode cX9_nextDoor 17 = .ok (.iload_n 2, 1) := by decide +kernel
theorem dX9_nextDoor_18 : decode cX9_nextDoor 18 = .ok (.iconst (-1), 1) := by decide +kernel
theorem dX9_nextDoor_19 : decode cX9_nextDoor 19 = .ok (.if_icmp .eq 36, 3) := by decide +kernel
theorem dX9_nextDoor_22 : decode cX9_nextDoor 22 = .ok (.aload_n 0, 1) := by decide +kernel
theorem dX9_nextDoor_23 : decode cX9_nextDoor 23 = .ok (.getfield 20, 3) := by decide +kernel
theorem dX9_nextDoor_26 : decode cX9_nextDoor 26 = .ok (.iload_n 3, 1) := by decide +kernel
theorem dX9_nextDoor_27 : decode cX9_nextDoor 27 = .ok (.iaload, 1) := by decide +kernel
theorem dX9_nextDoor_28 : decode cX9_nextDoor 28 = .ok (.aload_n 0, 1) := by decide +kernel
theorem dX9_nextDoor_29 : decode cX9_nextDoor 29 = .ok (.getfield 20, 3) := by decide +kernel
theorem dX9_nextDoor_32 : decode cX9_nextDoor 32 = .ok (.iload_n 1, 1) := by decide +kernel
theorem dX9_nextDoor_33 : decode cX9_nextDoor 33 = .ok (.iaload, 1) := by decide +kernel
theorem dX9_nextDoor_34 : decode cX9_nextDoor 34 = .ok (.invokestatic 364, 3) := by decide +kernel
theorem dX9_nextDoor_37 : decode cX9_nextDoor 37 = .ok (.aload_n 0, 1) := by decide +kernel
theorem dX9_nextDoor_38 : decode cX9_nextDoor 38 = .ok (.getfield 20, 3) := by decide +kernel
theorem dX9_nextDoor_41 : decode cX9_nextDoor 41 = .ok (.iload_n 2, 1) := by decide +kernel
theorem dX9_nextDoor_42 : decode cX9_nextDoor 42 = .ok (.iaload, 1) := by decide +kernel
theorem dX9_nextDoor_43 : decode cX9_nextDoor 43 = .ok (.aload_n 0, 1) := by decide +kernel
theorem dX9_nextDoor_44 : decode cX9_nextDoor 44 = .ok (.getfield 20, 3) := by decide +kernel
theorem dX9_nextDoor_47 : decode cX9_nextDoor 47 = .ok (.iload_n 1, 1) := by decide +kernel
theorem dX9_nextDoor_48 : decode cX9_nextDoor 48 = .ok (.iaload, 1) := by decide +kernel
theorem dX9_nextDoor_49 : decode cX9_nextDoor 49 = .ok (.invokestatic 364, 3) := by decide +kernel
theorem dX9_nextDoor_52 : decode cX9_nextDoor 52 = .ok (.if_icmp .ge 5, 3) := by decide +kernel
theorem dX9_nextDoor_55 : decode cX9_nextDoor 55 = .ok (.iload_n 3, 1) := by decide +kernel
theorem dX9_nextDoor_56 : decode cX9_nextDoor 56 = .ok (.istore_n 2, 1) := by decide +kernel
theorem dX9_nextDoor_57 : decode cX9_nextDoor 57 = .ok (.iinc 3 1, 3) := by decide +kernel
theorem dX9_nextDoor_60 : decode cX9_nextDoor 60 = .ok (.goto (-56), 3) := by decide +kernel
theorem dX9_nextDoor_63 : decode cX9_nextDoor 63 = .ok (.iload_n 2, 1) := by decide +kernel
theorem dX9_nextDoor_64 : decode cX9_nextDoor 64 = .ok (.ireturn, 1) := by decide +kernel
theorem dX9_roomOf_0 : decode cX9_roomOf 0 = .ok (.aload_n 0, 1) := by decide +kernel
theorem dX9_roomOf_1 : decode cX9_roomOf 1 = .ok (.getfield 66, 3) := by decide +kernel
theorem dX9_roomOf_4 : decode cX9_roomOf 4 = .ok (.bipush 19, 2) := by decide +kernel
theorem dX9_roomOf_6 : decode cX9_roomOf 6 = .ok (.iload_n 1, 1) := by decide +kernel
theorem dX9_roomOf_7 : decode cX9_roomOf 7 = .ok (.iadd, 1) := by decide +kernel
theorem dX9_roomOf_8 : decode cX9_roomOf 8 = .ok (.iaload, 1) := by decide +kernel
theorem dX9_roomOf_9 : decode cX9_roomOf 9 = .ok (.istore_n 2, 1) := by decide +kernel
theorem dX9_roomOf_10 : decode cX9_roomOf 10 = .ok (.iload_n 2, 1) := by decide +kernel
theorem dX9_roomOf_11 : decode cX9_roomOf 11 = .ok (.iconst (-1), 1) := by decide +kernel
theorem dX9_roomOf_12 : decode cX9_roomOf 12 = .ok (.if_icmp .ne 7, 3) := by decide +kernel
theorem dX9_roomOf_15 : decode cX9_roomOf 15 = .ok (.iconst 0, 1) := by decide +kernel
theorem dX9_roomOf_16 : decode cX9_roomOf 16 = .ok (.goto 28, 3) := by decide +kernel
theorem dX9_roomOf_19 : decode cX9_roomOf 19 = .ok (.aload_n 0, 1) := by decide +kernel
theorem dX9_roomOf_20 : decode cX9_roomOf 20 = .ok (.getfield 66, 3) := by decide +kernel
theorem dX9_roomOf_23 : decode cX9_roomOf 23 = .ok (.iconst 3, 1) := by decide +kernel
theorem dX9_roomOf_24 : decode cX9_roomOf 24 = .ok (.iload_n 1, 1) := by decide +kernel
theorem dX9_roomOf_25 : decode cX9_roomOf 25 = .ok (.iadd, 1) := by decide +kernel
theorem dX9_roomOf_26 : decode cX9_roomOf 26 = .ok (.iaload, 1) := by decide +kernel
theorem dX9_roomOf_27 : decode cX9_roomOf 27 = .ok (.aload_n 0, 1) := by decide +kernel
theorem dX9_roomOf_28 : decode cX9_roomOf 28 = .ok (.getfield 66, 3) := by decide +kernel
theorem dX9_roomOf_31 : decode cX9_roomOf 31 = .ok (.bipush 27, 2) := by decide +kernel
theorem dX9_roomOf_33 : decode cX9_roomOf 33 = .ok (.iload_n 2, 1) := by decide +kernel
theorem dX9_roomOf_34 : decode cX9_roomOf 34 = .ok (.iadd, 1) := by decide +kernel
theorem dX9_roomOf_35 : decode cX9_roomOf 35 = .ok (.iaload, 1) := by decide +kernel
theorem dX9_roomOf_36 : decode cX9_roomOf 36 = .ok (.isub, 1) := by decide +kernel
theorem dX9_roomOf_37 : decode cX9_roomOf 37 = .ok (.iconst 0, 1) := by decide +kernel
theorem dX9_roomOf_38 : decode cX9_roomOf 38 = .ok (.ldc_w 305, 3) := by decide +kernel
theorem dX9_roomOf_41 : decode cX9_roomOf 41 = .ok (.invokestatic 306, 3) := by decide +kernel
theorem dX9_roomOf_44 : decode cX9_roomOf 44 = .ok (.ireturn, 1) := by decide +kernel
theorem dX9_house_0 : decode cX9_house 0 = .ok (.aload_n 0, 1) := by decide +kernel
theorem dX9_house_1 : decode cX9_house 1 = .ok (.iconst 0, 1) := by decide +kernel
theorem dX9_house_2 : decode cX9_house 2 = .ok (.putfield 111, 3) := by decide +kernel
theorem dX9_house_5 : decode cX9_house 5 = .ok (.aload_n 0, 1) := by decide +kernel
theorem dX9_house_6 : decode cX9_house 6 = .ok (.iload_n 1, 1) := by decide +kernel
theorem dX9_house_7 : decode cX9_house 7 = .ok (.invokevirtual 367, 3) := by decide +kernel
theorem dX9_house_10 : decode cX9_house 10 = .ok (.ifCond .eq 13, 3) := by decide +kernel
theorem dX9_house_13 : decode cX9_house 13 = .ok (.aload_n 0, 1) := by decide +kernel
theorem dX9_house_14 : decode cX9_house 14 = .ok (.iload_n 2, 1) := by decide +kernel
theorem dX9_house_15 : decode cX9_house 15 = .ok (.bipush 7, 2) := by decide +kernel
theorem dX9_house_17 : decode cX9_house 17 = .ok (.invokevirtual 370, 3) := by decide +kernel
theorem dX9_house_20 : decode cX9_house 20 = .ok (.ifCond .ne 5, 3) := by decide +kernel
theorem dX9_house_23 : decode cX9_house 23 = .ok (.iconst 0, 1) := by decide +kernel
theorem dX9_house_24 : decode cX9_house 24 = .ok (.ireturn, 1) := by decide +kernel
theorem dX9_house_25 : decode cX9_house 25 = .ok (.iload_n 2, 1) := by decide +kernel
theorem dX9_house_26 : decode cX9_house 26 = .ok (.tableswitch 102 0 6 #[42, 51, 58, 65, 75, 85, 96], 42) := by decide +kernel
theorem dX9_house_68 : decode cX9_house 68 = .ok (.aload_n 0, 1) := by decide +kernel
theorem dX9_house_69 : decode cX9_house 69 = .ok (.getfield 66, 3) := by decide +kernel
theorem dX9_house_72 : decode cX9_house 72 = .ok (.iconst 3, 1) := by decide +kernel
theorem dX9_house_73 : decode cX9_house 73 = .ok (.iload_n 1, 1) := by decide +kernel
theorem dX9_house_74 : decode cX9_house 74 = .ok (.iadd, 1) := by decide +kernel
theorem dX9_house_75 : decode cX9_house 75 = .ok (.iaload, 1) := by decide +kernel
theorem dX9_house_76 : decode cX9_house 76 = .ok (.ireturn, 1) := by decide +kernel
theorem dX9_house_77 : decode cX9_house 77 = .ok (.aload_n 0, 1) := by decide +kernel
theorem dX9_house_78 : decode cX9_house 78 = .ok (.getfield 16, 3) := by decide +kernel
theorem dX9_house_81 : decode cX9_house 81 = .ok (.iload_n 1, 1) := by decide +kernel
theorem dX9_house_82 : decode cX9_house 82 = .ok (.iaload, 1) := by decide +kernel
theorem dX9_house_83 : decode cX9_house 83 = .ok (.ireturn, 1) := by decide +kernel
theorem dX9_house_84 : decode cX9_house 84 = .ok (.aload_n 0, 1) := by decide +kernel
theorem dX9_house_85 : decode cX9_house 85 = .ok (.getfield 20, 3) := by decide +kernel
theorem dX9_house_88 : decode cX9_house 88 = .ok (.iload_n 1, 1) := by decide +kernel
theorem dX9_house_89 : decode cX9_house 89 = .ok (.iaload, 1) := by decide +kernel
theorem dX9_house_90 : decode cX9_house 90 = .ok (.ireturn, 1) := by decide +kernel
theorem dX9_house_91 : decode cX9_house 91 = .ok (.aload_n 0, 1) := by decide +kernel
theorem dX9_house_92 : decode cX9_house 92 = .ok (.getfield 66, 3) := by decide +kernel
theorem dX9_house_95 : decode cX9_house 95 = .ok (.bipush 11, 2) := by decide +kernel
theorem dX9_house_97 : decode cX9_house 97 = .ok (.iload_n 1, 1) := by decide +kernel
theorem dX9_house_98 : decode cX9_house 98 = .ok (.iadd, 1) := by decide +kernel
theorem dX9_house_99 : decode cX9_house 99 = .ok (.iaload, 1) := by decide +kernel
theorem dX9_house_100 : decode cX9_house 100 = .ok (.ireturn, 1) := by decide +kernel
theorem dX9_house_101 : decode cX9_house 101 = .ok (.aload_n 0, 1) := by decide +kernel
theorem dX9_house_102 : decode cX9_house 102 = .ok (.getfield 66, 3) := by decide +kernel
theorem dX9_house_105 : decode cX9_house 105 = .ok (.bipush 19, 2) := by decide +kernel
theorem dX9_house_107 : decode cX9_house 107 = .ok (.iload_n 1, 1) := by decide +kernel
theorem dX9_house_108 : decode cX9_house 108 = .ok (.iadd, 1) := by decide +kernel
theorem dX9_house_109 : decode cX9_house 109 = .ok (.iaload, 1) := by decide +kernel
theorem dX9_house_110 : decode cX9_house 110 = .ok (.ireturn, 1) := by decide +kernel
theorem dX9_house_111 : decode cX9_house 111 = .ok (.aload_n 0, 1) := by decide +kernel
theorem dX9_house_112 : decode cX9_house 112 = .ok (.getfield 66, 3) := by decide +kernel
theorem dX9_house_115 : decode cX9_house 115 = .ok (.iconst 1, 1) := by decide +kernel
theorem dX9_house_116 : decode cX9_house 116 = .ok (.iaload, 1) := by decide +kernel
theorem dX9_house_117 : decode cX9_house 117 = .ok (.iload_n 1, 1) := by decide +kernel
theorem dX9_house_118 : decode cX9_house 118 = .ok (.ishr, 1) := by decide +kernel
theorem dX9_house_119 : decode cX9_house 119 = .ok (.iconst 1, 1) := by decide +kernel
theorem dX9_house_120 : decode cX9_house 120 = .ok (.iand, 1) := by decide +kernel
theorem dX9_house_121 : decode cX9_house 121 = .ok (.ireturn, 1) := by decide +kernel
theorem dX9_house_122 : decode cX9_house 122 = .ok (.aload_n 0, 1) := by decide +kernel
theorem dX9_house_123 : decode cX9_house 123 = .ok (.iload_n 1, 1) := by decide +kernel
theorem dX9_house_124 : decode cX9_house 124 = .ok (.invokevirtual 373, 3) := by decide +kernel
theorem dX9_house_127 : decode cX9_house 127 = .ok (.ireturn, 1) := by decide +kernel
theorem dX9_house_128 : decode cX9_house 128 = .ok (.aload_n 0, 1) := by decide +kernel
theorem dX9_house_129 : decode cX9_house 129 = .ok (.iload_n 1, 1) := by decide +kernel
theorem dX9_house_130 : decode cX9_house 130 = .ok (.invokevirtual 376, 3) := by decide +kernel
theorem dX9_house_133 : decode cX9_house 133 = .ok (.ireturn, 1) := by decide +kernel
theorem dX9_person_0 : decode cX9_person 0 = .ok (.aload_n 0, 1) := by decide +kernel
theorem dX9_person_1 : decode cX9_person 1 = .ok (.iconst 0, 1) := by decide +kernel
theorem dX9_person_2 : decode cX9_person 2 = .ok (.putfield 111, 3) := by decide +kernel
theorem dX9_person_5 : decode cX9_person 5 = .ok (.aload_n 0, 1) := by decide +kernel
theorem dX9_person_6 : decode cX9_person 6 = .ok (.iload_n 1, 1) := by decide +kernel
theorem dX9_person_7 : decode cX9_person 7 = .ok (.invokevirtual 379, 3) := by decide +kernel
theorem dX9_person_10 : decode cX9_person 10 = .ok (.ifCond .eq 12, 3) := by decide +kernel
theorem dX9_person_13 : decode cX9_person 13 = .ok (.aload_n 0, 1) := by decide +kernel
theorem dX9_person_14 : decode cX9_person 14 = .ok (.iload_n 2, 1) := by decide +kernel
theorem dX9_person_15 : decode cX9_person 15 = .ok (.iconst 4, 1) := by decide +kernel
theorem dX9_person_16 : decode cX9_person 16 = .ok (.invokevirtual 370, 3) := by decide +kernel
theorem dX9_person_19 : decode cX9_person 19 = .ok (.ifCond .ne 5, 3) := by decide +kernel
theorem dX9_person_22 : decode cX9_person 22 = .ok (.iconst 0, 1) := by decide +kernel
theorem dX9_person_23 : decode cX9_person 23 = .ok (.ireturn, 1) := by decide +kernel
theorem dX9_person_24 : decode cX9_person 24 = .ok (.iload_n 2, 1) := by decide +kernel
theorem dX9_person_25 : decode cX9_person 25 = .ok (.ifCond .ne 15, 3) := by decide +kernel
theorem dX9_person_28 : decode cX9_person 28 = .ok (.aload_n 0, 1) := by decide +kernel
theorem dX9_person_29 : decode cX9_person 29 = .ok (.getfield 66, 3) := by decide +kernel
theorem dX9_person_32 : decode cX9_person 32 = .ok (.bipush 27, 2) := by decide +kernel
theorem dX9_person_34 : decode cX9_person 34 = .ok (.iload_n 1, 1) := by decide +kernel
theorem dX9_person_35 : decode cX9_person 35 = .ok (.iadd, 1) := by decide +kernel
theorem dX9_person_36 : decode cX9_person 36 = .ok (.iaload, 1) := by decide +kernel
theorem dX9_person_37 : decode cX9_person 37 = .ok (.goto 53, 3) := by decide +kernel
theorem dX9_person_40 : decode cX9_person 40 = .ok (.iload_n 2, 1) := by decide +kernel
theorem dX9_person_41 : decode cX9_person 41 = .ok (.iconst 1, 1) := by decide +kernel
theorem dX9_person_42 : decode cX9_person 42 = .ok (.if_icmp .ne 12, 3) := by decide +kernel
theorem dX9_person_45 : decode cX9_person 45 = .ok (.aload_n 0, 1) := by decide +kernel
theorem dX9_person_46 : decode cX9_person 46 = .ok (.getfield 23, 3) := by decide +kernel
theorem dX9_person_49 : decode cX9_person 49 = .ok (.iload_n 1, 1) := by decide +kernel
theorem dX9_person_50 : decode cX9_person 50 = .ok (.iaload, 1) := by decide +kernel
theorem dX9_person_51 : decode cX9_person 51 = .ok (.goto 39, 3) := by decide +kernel
theorem dX9_person_54 : decode cX9_person 54 = .ok (.iload_n 2, 1) := by decide +kernel
theorem dX9_person_55 : decode cX9_person 55 = .ok (.iconst 2, 1) := by decide +kernel
theorem dX9_person_56 : decode cX9_person 56 = .ok (.if_icmp .ne 12, 3) := by decide +kernel
theorem dX9_person_59 : decode cX9_person 59 = .ok (.aload_n 0, 1) := by decide +kernel
theorem dX9_person_60 : decode cX9_person 60 = .ok (.iconst 0, 1) := by decide +kernel
theorem dX9_person_61 : decode cX9_person 61 = .ok (.iload_n 1, 1) := by decide +kernel
theorem dX9_person_62 : decode cX9_person 62 = .ok (.invokevirtual 339, 3) := by decide +kernel
theorem dX9_person_65 : decode cX9_person 65 = .ok (.goto 25, 3) := by decide +kernel
theorem dX9_person_68 : decode cX9_person 68 = .ok (.iload_n 2, 1) := by decide +kernel
theorem dX9_person_69 : decode cX9_person 69 = .ok (.iconst 3, 1) := by decide +kernel
theorem dX9_person_70 : decode cX9_person 70 = .ok (.if_icmp .ne 15, 3) := by decide +kernel
theorem dX9_person_73 : decode cX9_person 73 = .ok (.aload_n 0, 1) := by decide +kernel
theorem dX9_person_74 : decode cX9_person 74 = .ok (.getfield 66, 3) := by decide +kernel
theorem dX9_person_77 : decode cX9_person 77 = .ok (.bipush 35, 2) := by decide +kernel
theorem dX9_person_79 : decode cX9_person 79 = .ok (.iload_n 1, 1) := by decide +kernel
theorem dX9_person_80 : decode cX9_person 80 = .ok (.iadd, 1) := by decide +kernel
theorem dX9_person_81 : decode cX9_person 81 = .ok (.iaload, 1) := by decide +kernel
theorem dX9_person_82 : decode cX9_person 82 = .ok (.goto 8, 3) := by decide +kernel
theorem dX9_person_85 : decode cX9_person 85 = .ok (.aload_n 0, 1) := by decide +kernel
theorem dX9_person_86 : decode cX9_person 86 = .ok (.iload_n 1, 1) := by decide +kernel
theorem dX9_person_87 : decode cX9_person 87 = .ok (.invokevirtual 342, 3) := by decide +kernel
theorem dX9_person_90 : decode cX9_person 90 = .ok (.ireturn, 1) := by decide +kernel
theorem dX9_eases_0 : decode cX9_eases 0 = .ok (.aload_n 0, 1) := by decide +kernel
theorem dX9_eases_1 : decode cX9_eases 1 = .ok (.iconst 0, 1) := by decide +kernel
theorem dX9_eases_2 : decode cX9_eases 2 = .ok (.putfield 111, 3) := by decide +kernel
theorem dX9_eases_5 : decode cX9_eases 5 = .ok (.aload_n 0, 1) := by decide +kernel
theorem dX9_eases_6 : decode cX9_eases 6 = .ok (.iload_n 1, 1) := by decide +kernel
theorem dX9_eases_7 : decode cX9_eases 7 = .ok (.invokevirtual 379, 3) := by decide +kernel
theorem dX9_eases_10 : decode cX9_eases 10 = .ok (.ifCond .eq 21, 3) := by decide +kernel
theorem dX9_eases_13 : decode cX9_eases 13 = .ok (.aload_n 0, 1) := by decide +kernel
theorem dX9_eases_14 : decode cX9_eases 14 = .ok (.iload_n 2, 1) := by decide +kernel
theorem dX9_eases_15 : decode cX9_eases 15 = .ok (.invokevirtual 367, 3) := by decide +kernel
theorem dX9_eases_18 : decode cX9_eases 18 = .ok (.ifCond .eq 13, 3) := by decide +kernel
theorem dX9_eases_21 : decode cX9_eases 21 = .ok (.aload_n 0, 1) := by decide +kernel
theorem dX9_eases_22 : decode cX9_eases 22 = .ok (.iconst 0, 1) := by decide +kernel
theorem dX9_eases_23 : decode cX9_eases 23 = .ok (.iload_n 1, 1) := by decide +kernel
theorem dX9_eases_24 : decode cX9_eases 24 = .ok (.iload_n 2, 1) := by decide +kernel
theorem dX9_eases_25 : decode cX9_eases 25 = .ok (.invokevirtual 326, 3) := by decide +kernel
theorem dX9_eases_28 : decode cX9_eases 28 = .ok (.goto 4, 3) := by decide +kernel
theorem dX9_eases_31 : decode cX9_eases 31 = .ok (.iconst 0, 1) := by decide +kernel
theorem dX9_eases_32 : decode cX9_eases 32 = .ok (.ireturn, 1) := by decide +kernel
theorem dX9_days_0 : decode cX9_days 0 = .ok (.aload_n 0, 1) := by decide +kernel
theorem dX9_days_1 : decode cX9_days 1 = .ok (.iconst 0, 1) := by decide +kernel
theorem dX9_days_2 : decode cX9_days 2 = .ok (.putfield 111, 3) := by decide +kernel
theorem dX9_days_5 : decode cX9_days 5 = .ok (.iload_n 1, 1) := by decide +kernel
theorem dX9_days_6 : decode cX9_days 6 = .ok (.iconst 1, 1) := by decide +kernel
theorem dX9_days_7 : decode cX9_days 7 = .ok (.bipush 20, 2) := by decide +kernel
theorem dX9_days_9 : decode cX9_days 9 = .ok (.invokestatic 345, 3) := by decide +kernel
theorem dX9_days_12 : decode cX9_days 12 = .ok (.ifCond .eq 17, 3) := by decide +kernel
theorem dX9_days_15 : decode cX9_days 15 = .ok (.aload_n 0, 1) := by decide +kernel
theorem dX9_days_16 : decode cX9_days 16 = .ok (.getfield 66, 3) := by decide +kernel
theorem dX9_days_19 : decode cX9_days 19 = .ok (.iconst 0, 1) := by decide +kernel
theorem dX9_days_20 : decode cX9_days 20 = .ok (.iaload, 1) := by decide +kernel
theorem dX9_days_21 : decode cX9_days 21 = .ok (.iload_n 1, 1) := by decide +kernel
theorem dX9_days_22 : decode cX9_days 22 = .ok (.iadd, 1) := by decide +kernel
theorem dX9_days_23 : decode cX9_days 23 = .ok (.sipush 999, 3) := by decide +kernel
theorem dX9_days_26 : decode cX9_days 26 = .ok (.if_icmp .le 9, 3) := by decide +kernel
theorem dX9_days_29 : decode cX9_days 29 = .ok (.aload_n 0, 1) := by decide +kernel
theorem dX9_days_30 : decode cX9_days 30 = .ok (.iconst 1, 1) := by decide +kernel
theorem dX9_days_31 : decode cX9_days 31 = .ok (.invokevirtual 382, 3) := by decide +kernel
theorem dX9_days_34 : decode cX9_days 34 = .ok (.ireturn, 1) := by decide +kernel
theorem dX9_days_35 : decode cX9_days 35 = .ok (.aload_n 0, 1) := by decide +kernel
theorem dX9_days_36 : decode cX9_days 36 = .ok (.invokevirtual 385, 3) := by decide +kernel
theorem dX9_days_39 : decode cX9_days 39 = .ok (.iconst 0, 1) := by decide +kernel
theorem dX9_days_40 : decode cX9_days 40 = .ok (.istore_n 2, 1) := by decide +kernel
theorem dX9_days_41 : decode cX9_days 41 = .ok (.iload_n 2, 1) := by decide +kernel
theorem dX9_days_42 : decode cX9_days 42 = .ok (.iload_n 1, 1) := by decide +kernel
theorem dX9_days_43 : decode cX9_days 43 = .ok (.if_icmp .ge 14, 3) := by decide +kernel
theorem dX9_days_46 : decode cX9_days 46 = .ok (.aload_n 0, 1) := by decide +kernel
theorem dX9_days_47 : decode cX9_days 47 = .ok (.iconst 0, 1) := by decide +kernel
theorem dX9_days_48 : decode cX9_days 48 = .ok (.invokevirtual 336, 3) := by decide +kernel
theorem dX9_days_51 : decode cX9_days 51 = .ok (.iinc 2 1, 3) := by decide +kernel
theorem dX9_days_54 : decode cX9_days 54 = .ok (.goto (-13), 3) := by decide +kernel
theorem dX9_days_57 : decode cX9_days 57 = .ok (.aload_n 0, 1) := by decide +kernel
theorem dX9_days_58 : decode cX9_days 58 = .ok (.getfield 66, 3) := by decide +kernel
theorem dX9_days_61 : decode cX9_days 61 = .ok (.iconst 0, 1) := by decide +kernel
theorem dX9_days_62 : decode cX9_days 62 = .ok (.iaload, 1) := by decide +kernel
theorem dX9_days_63 : decode cX9_days 63 = .ok (.ireturn, 1) := by decide +kernel
theorem dX9_putIn_0 : decode cX9_putIn 0 = .ok (.aload_n 0, 1) := by decide +kernel
theorem dX9_putIn_1 : decode cX9_putIn 1 = .ok (.iconst 0, 1) := by decide +kernel
theorem dX9_putIn_2 : decode cX9_putIn 2 = .ok (.putfield 111, 3) := by decide +kernel
theorem dX9_putIn_5 : decode cX9_putIn 5 = .ok (.aload_n 0, 1) := by decide +kernel
theorem dX9_putIn_6 : decode cX9_putIn 6 = .ok (.iload_n 1, 1) := by decide +kernel
theorem dX9_putIn_7 : decode cX9_putIn 7 = .ok (.invokevirtual 379, 3) := by decide +kernel
theorem dX9_putIn_10 : decode cX9_putIn 10 = .ok (.ifCond .eq 11, 3) := by decide +kernel
theorem dX9_putIn_13 : decode cX9_putIn 13 = .ok (.aload_n 0, 1) := by decide +kernel
theorem dX9_putIn_14 : decode cX9_putIn 14 = .ok (.iload_n 2, 1) := by decide +kernel
theorem dX9_putIn_15 : decode cX9_putIn 15 = .ok (.invokevirtual 367, 3) := by decide +kernel
theorem dX9_putIn_18 : decode cX9_putIn 18 = .ok (.ifCond .ne 5, 3) := by decide +kernel
theorem dX9_putIn_21 : decode cX9_putIn 21 = .ok (.iconst 0, 1) := by decide +kernel
theorem dX9_putIn_22 : decode cX9_putIn 22 = .ok (.ireturn, 1) := by decide +kernel
theorem dX9_putIn_23 : decode cX9_putIn 23 = .ok (.aload_n 0, 1) := by decide +kernel
theorem dX9_putIn_24 : decode cX9_putIn 24 = .ok (.iconst 0, 1) := by decide +kernel
theorem dX9_putIn_25 : decode cX9_putIn 25 = .ok (.iload_n 1, 1) := by decide +kernel
theorem dX9_putIn_26 : decode cX9_putIn 26 = .ok (.invokevirtual 339, 3) := by decide +kernel
theorem dX9_putIn_29 : decode cX9_putIn 29 = .ok (.iconst (-1), 1) := by decide +kernel
theorem dX9_putIn_30 : decode cX9_putIn 30 = .ok (.if_icmp .ne 26, 3) := by decide +kernel
theorem dX9_putIn_33 : decode cX9_putIn 33 = .ok (.aload_n 0, 1) := by decide +kernel
theorem dX9_putIn_34 : decode cX9_putIn 34 = .ok (.getfield 66, 3) := by decide +kernel
theorem dX9_putIn_37 : decode cX9_putIn 37 = .ok (.bipush 19, 2) := by decide +kernel
theorem dX9_putIn_39 : decode cX9_putIn 39 = .ok (.iload_n 2, 1) := by decide +kernel
theorem dX9_putIn_40 : decode cX9_putIn 40 = .ok (.iadd, 1) := by decide +kernel
theorem dX9_putIn_41 : decode cX9_putIn 41 = .ok (.iaload, 1) := by decide +kernel
theorem dX9_putIn_42 : decode cX9_putIn 42 = .ok (.iconst (-1), 1) := by decide +kernel
theorem dX9_putIn_43 : decode cX9_putIn 43 = .ok (.if_icmp .ne 13, 3) := by decide +kernel
theorem dX9_putIn_46 : decode cX9_putIn 46 = .ok (.aload_n 0, 1) := by decide +kernel
theorem dX9_putIn_47 : decode cX9_putIn 47 = .ok (.iconst 0, 1) := by decide +kernel
theorem dX9_putIn_48 : decode cX9_putIn 48 = .ok (.iload_n 1, 1) := by decide +kernel
theorem dX9_putIn_49 : decode cX9_putIn 49 = .ok (.iload_n 2, 1) := by decide +kernel
theorem dX9_putIn_50 : decode cX9_putIn 50 = .ok (.invokevirtual 388, 3) := by decide +kernel
theorem dX9_putIn_53 : decode cX9_putIn 53 = .ok (.ifCond .ne 9, 3) := by decide +kernel
theorem dX9_putIn_56 : decode cX9_putIn 56 = .ok (.aload_n 0, 1) := by decide +kernel
theorem dX9_putIn_57 : decode cX9_putIn 57 = .ok (.iconst 1, 1) := by decide +kernel
theorem dX9_putIn_58 : decode cX9_putIn 58 = .ok (.invokevirtual 382, 3) := by decide +kernel
theorem dX9_putIn_61 : decode cX9_putIn 61 = .ok (.ireturn, 1) := by decide +kernel
theorem dX9_putIn_62 : decode cX9_putIn 62 = .ok (.aload_n 0, 1) := by decide +kernel
theorem dX9_putIn_63 : decode cX9_putIn 63 = .ok (.invokevirtual 385, 3) := by decide +kernel
theorem dX9_putIn_66 : decode cX9_putIn 66 = .ok (.aload_n 0, 1) := by decide +kernel
theorem dX9_putIn_67 : decode cX9_putIn 67 = .ok (.getfield 66, 3) := by decide +kernel
theorem dX9_putIn_70 : decode cX9_putIn 70 = .ok (.bipush 19, 2) := by decide +kernel
theorem dX9_putIn_72 : decode cX9_putIn 72 = .ok (.iload_n 2, 1) := by decide +kernel
theorem dX9_putIn_73 : decode cX9_putIn 73 = .ok (.iadd, 1) := by decide +kernel
theorem dX9_putIn_74 : decode cX9_putIn 74 = .ok (.iload_n 1, 1) := by decide +kernel
theorem dX9_putIn_75 : decode cX9_putIn 75 = .ok (.iastore, 1) := by decide +kernel
theorem dX9_putIn_76 : decode cX9_putIn 76 = .ok (.aload_n 0, 1) := by decide +kernel
theorem dX9_putIn_77 : decode cX9_putIn 77 = .ok (.iconst 0, 1) := by decide +kernel
theorem dX9_putIn_78 : decode cX9_putIn 78 = .ok (.iload_n 1, 1) := by decide +kernel
theorem dX9_putIn_79 : decode cX9_putIn 79 = .ok (.iload_n 2, 1) := by decide +kernel
theorem dX9_putIn_80 : decode cX9_putIn 80 = .ok (.invokevirtual 312, 3) := by decide +kernel
theorem dX9_putIn_83 : decode cX9_putIn 83 = .ok (.ireturn, 1) := by decide +kernel
theorem dX9_out_0 : decode cX9_out 0 = .ok (.aload_n 0, 1) := by decide +kernel
theorem dX9_out_1 : decode cX9_out 1 = .ok (.iconst 0, 1) := by decide +kernel
theorem dX9_out_2 : decode cX9_out 2 = .ok (.putfield 111, 3) := by decide +kernel
theorem dX9_out_5 : decode cX9_out 5 = .ok (.aload_n 0, 1) := by decide +kernel
theorem dX9_out_6 : decode cX9_out 6 = .ok (.iload_n 1, 1) := by decide +kernel
theorem dX9_out_7 : decode cX9_out 7 = .ok (.invokevirtual 379, 3) := by decide +kernel
theorem dX9_out_10 : decode cX9_out 10 = .ok (.ifCond .ne 5, 3) := by decide +kernel
theorem dX9_out_13 : decode cX9_out 13 = .ok (.iconst 0, 1) := by decide +kernel
theorem dX9_out_14 : decode cX9_out 14 = .ok (.ireturn, 1) := by decide +kernel
theorem dX9_out_15 : decode cX9_out 15 = .ok (.aload_n 0, 1) := by decide +kernel
theorem dX9_out_16 : decode cX9_out 16 = .ok (.iconst 0, 1) := by decide +kernel
theorem dX9_out_17 : decode cX9_out 17 = .ok (.iload_n 1, 1) := by decide +kernel
theorem dX9_out_18 : decode cX9_out 18 = .ok (.invokevirtual 339, 3) := by decide +kernel
theorem dX9_out_21 : decode cX9_out 21 = .ok (.istore_n 2, 1) := by decide +kernel
theorem dX9_out_22 : decode cX9_out 22 = .ok (.iload_n 2, 1) := by decide +kernel
theorem dX9_out_23 : decode cX9_out 23 = .ok (.iconst (-1), 1) := by decide +kernel
theorem dX9_out_24 : decode cX9_out 24 = .ok (.if_icmp .ne 9, 3) := by decide +kernel
theorem dX9_out_27 : decode cX9_out 27 = .ok (.aload_n 0, 1) := by decide +kernel
theorem dX9_out_28 : decode cX9_out 28 = .ok (.iconst 1, 1) := by decide +kernel
theorem dX9_out_29 : decode cX9_out 29 = .ok (.invokevirtual 382, 3) := by decide +kernel
theorem dX9_out_32 : decode cX9_out 32 = .ok (.ireturn, 1) := by decide +kernel
theorem dX9_out_33 : decode cX9_out 33 = .ok (.aload_n 0, 1) := by decide +kernel
theorem dX9_out_34 : decode cX9_out 34 = .ok (.invokevirtual 385, 3) := by decide +kernel
theorem dX9_out_37 : decode cX9_out 37 = .ok (.aload_n 0, 1) := by decide +kernel
theorem dX9_out_38 : decode cX9_out 38 = .ok (.getfield 66, 3) := by decide +kernel
theorem dX9_out_41 : decode cX9_out 41 = .ok (.bipush 19, 2) := by decide +kernel
theorem dX9_out_43 : decode cX9_out 43 = .ok (.iload_n 2, 1) := by decide +kernel
theorem dX9_out_44 : decode cX9_out 44 = .ok (.iadd, 1) := by decide +kernel
theorem dX9_out_45 : decode cX9_out 45 = .ok (.iconst (-1), 1) := by decide +kernel
theorem dX9_out_46 : decode cX9_out 46 = .ok (.iastore, 1) := by decide +kernel
theorem dX9_out_47 : decode cX9_out 47 = .ok (.iload_n 2, 1) := by decide +kernel
theorem dX9_out_48 : decode cX9_out 48 = .ok (.ireturn, 1) := by decide +kernel
theorem dX9_stuff_0 : decode cX9_stuff 0 = .ok (.aload_n 0, 1) := by decide +kernel
theorem dX9_stuff_1 : decode cX9_stuff 1 = .ok (.iconst 0, 1) := by decide +kernel
theorem dX9_stuff_2 : decode cX9_stuff 2 = .ok (.putfield 111, 3) := by decide +kernel
theorem dX9_stuff_5 : decode cX9_stuff 5 = .ok (.aload_n 0, 1) := by decide +kernel
theorem dX9_stuff_6 : decode cX9_stuff 6 = .ok (.iload_n 1, 1) := by decide +kernel
theorem dX9_stuff_7 : decode cX9_stuff 7 = .ok (.invokevirtual 367, 3) := by decide +kernel
theorem dX9_stuff_10 : decode cX9_stuff 10 = .ok (.ifCond .ne 5, 3) := by decide +kernel
theorem dX9_stuff_13 : decode cX9_stuff 13 = .ok (.iconst 0, 1) := by decide +kernel
theorem dX9_stuff_14 : decode cX9_stuff 14 = .ok (.ireturn, 1) := by decide +kernel
theorem dX9_stuff_15 : decode cX9_stuff 15 = .ok (.aload_n 0, 1) := by decide +kernel
theorem dX9_stuff_16 : decode cX9_stuff 16 = .ok (.getfield 66, 3) := by decide +kernel
theorem dX9_stuff_19 : decode cX9_stuff 19 = .ok (.bipush 19, 2) := by decide +kernel
theorem dX9_stuff_21 : decode cX9_stuff 21 = .ok (.iload_n 1, 1) := by decide +kernel
theorem dX9_stuff_22 : decode cX9_stuff 22 = .ok (.iadd, 1) := by decide +kernel
theorem dX9_stuff_23 : decode cX9_stuff 23 = .ok (.iaload, 1) := by decide +kernel
theorem dX9_stuff_24 : decode cX9_stuff 24 = .ok (.iconst (-1), 1) := by decide +kernel
theorem dX9_stuff_25 : decode cX9_stuff 25 = .ok (.if_icmp .ne 13, 3) := by decide +kernel
theorem dX9_stuff_28 : decode cX9_stuff 28 = .ok (.iload_n 2, 1) := by decide +kernel
theorem dX9_stuff_29 : decode cX9_stuff 29 = .ok (.iconst 1, 1) := by decide +kernel
theorem dX9_stuff_30 : decode cX9_stuff 30 = .ok (.bipush 20, 2) := by decide +kernel
theorem dX9_stuff_32 : decode cX9_stuff 32 = .ok (.invokestatic 345, 3) := by decide +kernel
theorem dX9_stuff_35 : decode cX9_stuff 35 = .ok (.ifCond .ne 9, 3) := by decide +kernel
theorem dX9_stuff_38 : decode cX9_stuff 38 = .ok (.aload_n 0, 1) := by decide +kernel
theorem dX9_stuff_39 : decode cX9_stuff 39 = .ok (.iconst 1, 1) := by decide +kernel
theorem dX9_stuff_40 : decode cX9_stuff 40 = .ok (.invokevirtual 382, 3) := by decide +kernel
theorem dX9_stuff_43 : decode cX9_stuff 43 = .ok (.ireturn, 1) := by decide +kernel
theorem dX9_stuff_44 : decode cX9_stuff 44 = .ok (.aload_n 0, 1) := by decide +kernel
theorem dX9_stuff_45 : decode cX9_stuff 45 = .ok (.invokevirtual 385, 3) := by decide +kernel
theorem dX9_stuff_48 : decode cX9_stuff 48 = .ok (.aload_n 0, 1) := by decide +kernel
theorem dX9_stuff_49 : decode cX9_stuff 49 = .ok (.getfield 66, 3) := by decide +kernel
theorem dX9_stuff_52 : decode cX9_stuff 52 = .ok (.iconst 3, 1) := by decide +kernel
theorem dX9_stuff_53 : decode cX9_stuff 53 = .ok (.iload_n 1, 1) := by decide +kernel
theorem dX9_stuff_54 : decode cX9_stuff 54 = .ok (.iadd, 1) := by decide +kernel
theorem dX9_stuff_55 : decode cX9_stuff 55 = .ok (.aload_n 0, 1) := by decide +kernel
theorem dX9_stuff_56 : decode cX9_stuff 56 = .ok (.getfield 66, 3) := by decide +kernel
theorem dX9_stuff_59 : decode cX9_stuff 59 = .ok (.iconst 3, 1) := by decide +kernel
theorem dX9_stuff_60 : decode cX9_stuff 60 = .ok (.iload_n 1, 1) := by decide +kernel
theorem dX9_stuff_61 : decode cX9_stuff 61 = .ok (.iadd, 1) := by decide +kernel
theorem dX9_stuff_62 : decode cX9_stuff 62 = .ok (.iaload, 1) := by decide +kernel
theorem dX9_stuff_63 : decode cX9_stuff 63 = .ok (.iload_n 2, 1) := by decide +kernel
theorem dX9_stuff_64 : decode cX9_stuff 64 = .ok (.isub, 1) := by decide +kernel
theorem dX9_stuff_65 : decode cX9_stuff 65 = .ok (.iconst 1, 1) := by decide +kernel
theorem dX9_stuff_66 : decode cX9_stuff 66 = .ok (.ldc_w 305, 3) := by decide +kernel
theorem dX9_stuff_69 : decode cX9_stuff 69 = .ok (.invokestatic 306, 3) := by decide +kernel
theorem dX9_stuff_72 : decode cX9_stuff 72 = .ok (.iastore, 1) := by decide +kernel
theorem dX9_stuff_73 : decode cX9_stuff 73 = .ok (.aload_n 0, 1) := by decide +kernel
theorem dX9_stuff_74 : decode cX9_stuff 74 = .ok (.getfield 66, 3) := by decide +kernel
theorem dX9_stuff_77 : decode cX9_stuff 77 = .ok (.iconst 3, 1) := by decide +kernel
theorem dX9_stuff_78 : decode cX9_stuff 78 = .ok (.iload_n 1, 1) := by decide +kernel
theorem dX9_stuff_79 : decode cX9_stuff 79 = .ok (.iadd, 1) := by decide +kernel
theorem dX9_stuff_80 : decode cX9_stuff 80 = .ok (.iaload, 1) := by decide +kernel
theorem dX9_stuff_81 : decode cX9_stuff 81 = .ok (.ireturn, 1) := by decide +kernel
theorem dX9_change_0 : decode cX9_change 0 = .ok (.aload_n 0, 1) := by decide +kernel
theorem dX9_change_1 : decode cX9_change 1 = .ok (.iconst 0, 1) := by decide +kernel
theorem dX9_change_2 : decode cX9_change 2 = .ok (.putfield 111, 3) := by decide +kernel
theorem dX9_change_5 : decode cX9_change 5 = .ok (.aload_n 0, 1) := by decide +kernel
theorem dX9_change_6 : decode cX9_change 6 = .ok (.iload_n 1, 1) := by decide +kernel
theorem dX9_change_7 : decode cX9_change 7 = .ok (.invokevirtual 379, 3) := by decide +kernel
theorem dX9_change_10 : decode cX9_change 10 = .ok (.ifCond .eq 11, 3) := by decide +kernel
theorem dX9_change_13 : decode cX9_change 13 = .ok (.aload_n 0, 1) := by decide +kernel
theorem dX9_change_14 : decode cX9_change 14 = .ok (.iload_n 2, 1) := by decide +kernel
theorem dX9_change_15 : decode cX9_change 15 = .ok (.invokevirtual 379, 3) := by decide +kernel
theorem dX9_change_18 : decode cX9_change 18 = .ok (.ifCond .ne 5, 3) := by decide +kernel
theorem dX9_change_21 : decode cX9_change 21 = .ok (.iconst 0, 1) := by decide +kernel
theorem dX9_change_22 : decode cX9_change 22 = .ok (.ireturn, 1) := by decide +kernel
theorem dX9_change_23 : decode cX9_change 23 = .ok (.aload_n 0, 1) := by decide +kernel
theorem dX9_change_24 : decode cX9_change 24 = .ok (.iconst 0, 1) := by decide +kernel
theorem dX9_change_25 : decode cX9_change 25 = .ok (.iload_n 1, 1) := by decide +kernel
theorem dX9_change_26 : decode cX9_change 26 = .ok (.invokevirtual 339, 3) := by decide +kernel
theorem dX9_change_29 : decode cX9_change 29 = .ok (.istore_n 3, 1) := by decide +kernel
theorem dX9_change_30 : decode cX9_change 30 = .ok (.aload_n 0, 1) := by decide +kernel
theorem dX9_change_31 : decode cX9_change 31 = .ok (.iconst 0, 1) := by decide +kernel
theorem dX9_change_32 : decode cX9_change 32 = .ok (.iload_n 2, 1) := by decide +kernel
theorem dX9_change_33 : decode cX9_change 33 = .ok (.invokevirtual 339, 3) := by decide +kernel
theorem dX9_change_36 : decode cX9_change 36 = .ok (.istore 4, 2) := by decide +kernel
theorem dX9_change_38 : decode cX9_change 38 = .ok (.iload_n 1, 1) := by decide +kernel
theorem dX9_change_39 : decode cX9_change 39 = .ok (.iload_n 2, 1) := by decide +kernel
theorem dX9_change_40 : decode cX9_change 40 = .ok (.if_icmp .eq 50, 3) := by decide +kernel
theorem dX9_change_43 : decode cX9_change 43 = .ok (.iload_n 3, 1) := by decide +kernel
theorem dX9_change_44 : decode cX9_change 44 = .ok (.iconst (-1), 1) := by decide +kernel
theorem dX9_change_45 : decode cX9_change 45 = .ok (.if_icmp .ne 9, 3) := by decide +kernel
theorem dX9_change_48 : decode cX9_change 48 = .ok (.iload 4, 2) := by decide +kernel
theorem dX9_change_50 : decode cX9_change 50 = .ok (.iconst (-1), 1) := by decide +kernel
theorem dX9_change_51 : decode cX9_change 51 = .ok (.if_icmp .eq 39, 3) := by decide +kernel
theorem dX9_change_54 : decode cX9_change 54 = .ok (.iload 4, 2) := by decide +kernel
theorem dX9_change_56 : decode cX9_change 56 = .ok (.iconst (-1), 1) := by decide +kernel
theorem dX9_change_57 : decode cX9_change 57 = .ok (.if_icmp .eq 14, 3) := by decide +kernel
theorem dX9_change_60 : decode cX9_change 60 = .ok (.aload_n 0, 1) := by decide +kernel
theorem dX9_change_61 : decode cX9_change 61 = .ok (.iconst 0, 1) := by decide +kernel
theorem dX9_change_62 : decode cX9_change 62 = .ok (.iload_n 1, 1) := by decide +kernel
theorem dX9_change_63 : decode cX9_change 63 = .ok (.iload 4, 2) := by decide +kernel
theorem dX9_change_65 : decode cX9_change 65 = .ok (.invokevirtual 388, 3) := by decide +kernel
theorem dX9_change_68 : decode cX9_change 68 = .ok (.ifCond .eq 22, 3) := by decide +kernel
theorem dX9_change_71 : decode cX9_change 71 = .ok (.iload_n 3, 1) := by decide +kernel
theorem dX9_change_72 : decode cX9_change 72 = .ok (.iconst (-1), 1) := by decide +kernel
theorem dX9_change_73 : decode cX9_change 73 = .ok (.if_icmp .eq 13, 3) := by decide +kernel
theorem dX9_change_76 : decode cX9_change 76 = .ok (.aload_n 0, 1) := by decide +kernel
theorem dX9_change_77 : decode cX9_change 77 = .ok (.iconst 0, 1) := by decide +kernel
theorem dX9_change_78 : decode cX9_change 78 = .ok (.iload_n 2, 1) := by decide +kernel
theorem dX9_change_79 : decode cX9_change 79 = .ok (.iload_n 3, 1) := by decide +kernel
theorem dX9_change_80 : decode cX9_change 80 = .ok (.invokevirtual 388, 3) := by decide +kernel
theorem dX9_change_83 : decode cX9_change 83 = .ok (.ifCond .eq 7, 3) := by decide +kernel
theorem dX9_change_86 : decode cX9_change 86 = .ok (.iconst 1, 1) := by decide +kernel
theorem dX9_change_87 : decode cX9_change 87 = .ok (.goto 4, 3) := by decide +kernel
theorem dX9_change_90 : decode cX9_change 90 = .ok (.iconst 0, 1) := by decide +kernel
theorem dX9_change_91 : decode cX9_change 91 = .ok (.istore 5, 2) := by decide +kernel
theorem dX9_change_93 : decode cX9_change 93 = .ok (.iload 5, 2) := by decide +kernel
theorem dX9_change_95 : decode cX9_change 95 = .ok (.ifCond .ne 17, 3) := by decide +kernel
theorem dX9_change_98 : decode cX9_change 98 = .ok (.aload_n 0, 1) := by decide +kernel
theorem dX9_change_99 : decode cX9_change 99 = .ok (.iconst 1, 1) := by decide +kernel
theorem dX9_change_100 : decode cX9_change 100 = .ok (.invokevirtual 382, 3) := by decide +kernel
theorem dX9_change_103 : decode cX9_change 103 = .ok (.ifCond .le 7, 3) := by decide +kernel
theorem dX9_change_106 : decode cX9_change 106 = .ok (.iconst 1, 1) := by decide +kernel
theorem dX9_change_107 : decode cX9_change 107 = .ok (.goto 4, 3) := by decide +kernel
theorem dX9_change_110 : decode cX9_change 110 = .ok (.iconst 0, 1) := by decide +kernel
theorem dX9_change_111 : decode cX9_change 111 = .ok (.ireturn, 1) := by decide +kernel
theorem dX9_change_112 : decode cX9_change 112 = .ok (.aload_n 0, 1) := by decide +kernel
theorem dX9_change_113 : decode cX9_change 113 = .ok (.invokevirtual 385, 3) := by decide +kernel
theorem dX9_change_116 : decode cX9_change 116 = .ok (.iload_n 3, 1) := by decide +kernel
theorem dX9_change_117 : decode cX9_change 117 = .ok (.iconst (-1), 1) := by decide +kernel
theorem dX9_change_118 : decode cX9_change 118 = .ok (.if_icmp .eq 13, 3) := by decide +kernel
theorem dX9_change_121 : decode cX9_change 121 = .ok (.aload_n 0, 1) := by decide +kernel
theorem dX9_change_122 : decode cX9_change 122 = .ok (.getfield 66, 3) := by decide +kernel
theorem dX9_change_125 : decode cX9_change 125 = .ok (.bipush 19, 2) := by decide +kernel
theorem dX9_change_127 : decode cX9_change 127 = .ok (.iload_n 3, 1) := by decide +kernel
theorem dX9_change_128 : decode cX9_change 128 = .ok (.iadd, 1) := by decide +kernel
theorem dX9_change_129 : decode cX9_change 129 = .ok (.iload_n 2, 1) := by decide +kernel
theorem dX9_change_130 : decode cX9_change 130 = .ok (.iastore, 1) := by decide +kernel
theorem dX9_change_131 : decode cX9_change 131 = .ok (.iload 4, 2) := by decide +kernel
theorem dX9_change_133 : decode cX9_change 133 = .ok (.iconst (-1), 1) := by decide +kernel
theorem dX9_change_134 : decode cX9_change 134 = .ok (.if_icmp .eq 14, 3) := by decide +kernel
theorem dX9_change_137 : decode cX9_change 137 = .ok (.aload_n 0, 1) := by decide +kernel
theorem dX9_change_138 : decode cX9_change 138 = .ok (.getfield 66, 3) := by decide +kernel
theorem dX9_change_141 : decode cX9_change 141 = .ok (.bipush 19, 2) := by decide +kernel
theorem dX9_change_143 : decode cX9_change 143 = .ok (.iload 4, 2) := by decide +kernel
theorem dX9_change_145 : decode cX9_change 145 = .ok (.iadd, 1) := by decide +kernel
theorem dX9_change_146 : decode cX9_change 146 = .ok (.iload_n 1, 1) := by decide +kernel
theorem dX9_change_147 : decode cX9_change 147 = .ok (.iastore, 1) := by decide +kernel
theorem dX9_change_148 : decode cX9_change 148 = .ok (.iconst 1, 1) := by decide +kernel
theorem dX9_change_149 : decode cX9_change 149 = .ok (.ireturn, 1) := by decide +kernel
theorem dX9_letIn_0 : decode cX9_letIn 0 = .ok (.aload_n 0, 1) := by decide +kernel
theorem dX9_letIn_1 : decode cX9_letIn 1 = .ok (.iconst 0, 1) := by decide +kernel
theorem dX9_letIn_2 : decode cX9_letIn 2 = .ok (.putfield 111, 3) := by decide +kernel
theorem dX9_letIn_5 : decode cX9_letIn 5 = .ok (.aload_n 0, 1) := by decide +kernel
theorem dX9_letIn_6 : decode cX9_letIn 6 = .ok (.getfield 66, 3) := by decide +kernel
theorem dX9_letIn_9 : decode cX9_letIn 9 = .ok (.iconst 2, 1) := by decide +kernel
theorem dX9_letIn_10 : decode cX9_letIn 10 = .ok (.iaload, 1) := by decide +kernel
theorem dX9_letIn_11 : decode cX9_letIn 11 = .ok (.iconst 1, 1) := by decide +kernel
theorem dX9_letIn_12 : decode cX9_letIn 12 = .ok (.if_icmp .ne 9, 3) := by decide +kernel
theorem dX9_letIn_15 : decode cX9_letIn 15 = .ok (.aload_n 0, 1) := by decide +kernel
theorem dX9_letIn_16 : decode cX9_letIn 16 = .ok (.iconst 1, 1) := by decide +kernel
theorem dX9_letIn_17 : decode cX9_letIn 17 = .ok (.invokevirtual 382, 3) := by decide +kernel
theorem dX9_letIn_20 : decode cX9_letIn 20 = .ok (.ireturn, 1) := by decide +kernel
theorem dX9_letIn_21 : decode cX9_letIn 21 = .ok (.aload_n 0, 1) := by decide +kernel
theorem dX9_letIn_22 : decode cX9_letIn 22 = .ok (.iconst 0, 1) := by decide +kernel
theorem dX9_letIn_23 : decode cX9_letIn 23 = .ok (.invokevirtual 309, 3) := by decide +kernel
theorem dX9_letIn_26 : decode cX9_letIn 26 = .ok (.istore_n 1, 1) := by decide +kernel
theorem dX9_letIn_27 : decode cX9_letIn 27 = .ok (.aload_n 0, 1) := by decide +kernel
theorem dX9_letIn_28 : decode cX9_letIn 28 = .ok (.invokevirtual 385, 3) := by decide +kernel
theorem dX9_letIn_31 : decode cX9_letIn 31 = .ok (.aload_n 0, 1) := by decide +kernel
theorem dX9_letIn_32 : decode cX9_letIn 32 = .ok (.getfield 66, 3) := by decide +kernel
theorem dX9_letIn_35 : decode cX9_letIn 35 = .ok (.iconst 2, 1) := by decide +kernel
theorem dX9_letIn_36 : decode cX9_letIn 36 = .ok (.iconst 1, 1) := by decide +kernel
theorem dX9_letIn_37 : decode cX9_letIn 37 = .ok (.iastore, 1) := by decide +kernel
theorem dX9_letIn_38 : decode cX9_letIn 38 = .ok (.iload_n 1, 1) := by decide +kernel
theorem dX9_letIn_39 : decode cX9_letIn 39 = .ok (.ireturn, 1) := by decide +kernel
theorem dX9_goesTo_0 : decode cX9_goesTo 0 = .ok (.aload_n 0, 1) := by decide +kernel
theorem dX9_goesTo_1 : decode cX9_goesTo 1 = .ok (.invokevirtual 391, 3) := by decide +kernel
theorem dX9_goesTo_4 : decode cX9_goesTo 4 = .ok (.aload_n 0, 1) := by decide +kernel
theorem dX9_goesTo_5 : decode cX9_goesTo 5 = .ok (.iload_n 1, 1) := by decide +kernel
theorem dX9_goesTo_6 : decode cX9_goesTo 6 = .ok (.invokevirtual 394, 3) := by decide +kernel
theorem dX9_goesTo_9 : decode cX9_goesTo 9 = .ok (.return_, 1) := by decide +kernel
theorem dX9_then_0 : decode cX9_then 0 = .ok (.aload_n 0, 1) := by decide +kernel
theorem dX9_then_1 : decode cX9_then 1 = .ok (.iconst 0, 1) := by decide +kernel
theorem dX9_then_2 : decode cX9_then 2 = .ok (.putfield 111, 3) := by decide +kernel
theorem dX9_then_5 : decode cX9_then 5 = .ok (.aload_n 0, 1) := by decide +kernel
theorem dX9_then_6 : decode cX9_then 6 = .ok (.iload_n 1, 1) := by decide +kernel
theorem dX9_then_7 : decode cX9_then 7 = .ok (.invokevirtual 379, 3) := by decide +kernel
theorem dX9_then_10 : decode cX9_then 10 = .ok (.ifCond .eq 22, 3) := by decide +kernel
theorem dX9_then_13 : decode cX9_then 13 = .ok (.aload_n 0, 1) := by decide +kernel
theorem dX9_then_14 : decode cX9_then 14 = .ok (.iload_n 3, 1) := by decide +kernel
theorem dX9_then_15 : decode cX9_then 15 = .ok (.iconst 2, 1) := by decide +kernel
theorem dX9_then_16 : decode cX9_then 16 = .ok (.invokevirtual 370, 3) := by decide +kernel
theorem dX9_then_19 : decode cX9_then 19 = .ok (.ifCond .eq 13, 3) := by decide +kernel
theorem dX9_then_22 : decode cX9_then 22 = .ok (.aload_n 0, 1) := by decide +kernel
theorem dX9_then_23 : decode cX9_then 23 = .ok (.iload_n 2, 1) := by decide +kernel
theorem dX9_then_24 : decode cX9_then 24 = .ok (.iconst 0, 1) := by decide +kernel
theorem dX9_then_25 : decode cX9_then 25 = .ok (.iconst 2, 1) := by decide +kernel
theorem dX9_then_26 : decode cX9_then 26 = .ok (.invokevirtual 397, 3) := by decide +kernel
theorem dX9_then_29 : decode cX9_then 29 = .ok (.ifCond .ne 5, 3) := by decide +kernel
theorem dX9_then_32 : decode cX9_then 32 = .ok (.iconst 0, 1) := by decide +kernel
theorem dX9_then_33 : decode cX9_then 33 = .ok (.ireturn, 1) := by decide +kernel
theorem dX9_then_34 : decode cX9_then 34 = .ok (.aload_n 0, 1) := by decide +kernel
theorem dX9_then_35 : decode cX9_then 35 = .ok (.iload_n 2, 1) := by decide +kernel
theorem dX9_then_36 : decode cX9_then 36 = .ok (.invokevirtual 400, 3) := by decide +kernel
theorem dX9_then_39 : decode cX9_then 39 = .ok (.iload_n 3, 1) := by decide +kernel
theorem dX9_then_40 : decode cX9_then 40 = .ok (.ifCond .ne 15, 3) := by decide +kernel
theorem dX9_then_43 : decode cX9_then 43 = .ok (.aload_n 0, 1) := by decide +kernel
theorem dX9_then_44 : decode cX9_then 44 = .ok (.getfield 66, 3) := by decide +kernel
theorem dX9_then_47 : decode cX9_then 47 = .ok (.bipush 70, 2) := by decide +kernel
theorem dX9_then_49 : decode cX9_then 49 = .ok (.iload_n 1, 1) := by decide +kernel
theorem dX9_then_50 : decode cX9_then 50 = .ok (.iadd, 1) := by decide +kernel
theorem dX9_then_51 : decode cX9_then 51 = .ok (.iaload, 1) := by decide +kernel
theorem dX9_then_52 : decode cX9_then 52 = .ok (.goto 27, 3) := by decide +kernel
theorem dX9_then_55 : decode cX9_then 55 = .ok (.iload_n 3, 1) := by decide +kernel
theorem dX9_then_56 : decode cX9_then 56 = .ok (.iconst 1, 1) := by decide +kernel
theorem dX9_then_57 : decode cX9_then 57 = .ok (.if_icmp .ne 13, 3) := by decide +kernel
theorem dX9_then_60 : decode cX9_then 60 = .ok (.aload_n 0, 1) := by decide +kernel
theorem dX9_then_61 : decode cX9_then 61 = .ok (.bipush 43, 2) := by decide +kernel
theorem dX9_then_63 : decode cX9_then 63 = .ok (.iload_n 1, 1) := by decide +kernel
theorem dX9_then_64 : decode cX9_then 64 = .ok (.invokevirtual 339, 3) := by decide +kernel
theorem dX9_then_67 : decode cX9_then 67 = .ok (.goto 12, 3) := by decide +kernel
theorem dX9_then_70 : decode cX9_then 70 = .ok (.aload_n 0, 1) := by decide +kernel
theorem dX9_then_71 : decode cX9_then 71 = .ok (.getfield 66, 3) := by decide +kernel
theorem dX9_then_74 : decode cX9_then 74 = .ok (.bipush 78, 2) := by decide +kernel
theorem dX9_then_76 : decode cX9_then 76 = .ok (.iload_n 1, 1) := by decide +kernel
theorem dX9_then_77 : decode cX9_then 77 = .ok (.iadd, 1) := by decide +kernel
theorem dX9_then_78 : decode cX9_then 78 = .ok (.iaload, 1) := by decide +kernel
theorem dX9_then_79 : decode cX9_then 79 = .ok (.ireturn, 1) := by decide +kernel
theorem dX9_worn_0 : decode cX9_worn 0 = .ok (.aload_n 0, 1) := by decide +kernel
theorem dX9_worn_1 : decode cX9_worn 1 = .ok (.iconst 0, 1) := by decide +kernel
theorem dX9_worn_2 : decode cX9_worn 2 = .ok (.putfield 111, 3) := by decide +kernel
theorem dX9_worn_5 : decode cX9_worn 5 = .ok (.aload_n 0, 1) := by decide +kernel
theorem dX9_worn_6 : decode cX9_worn 6 = .ok (.iload_n 1, 1) := by decide +kernel
theorem dX9_worn_7 : decode cX9_worn 7 = .ok (.invokevirtual 367, 3) := by decide +kernel
theorem dX9_worn_10 : decode cX9_worn 10 = .ok (.ifCond .eq 13, 3) := by decide +kernel
theorem dX9_worn_13 : decode cX9_worn 13 = .ok (.aload_n 0, 1) := by decide +kernel
theorem dX9_worn_14 : decode cX9_worn 14 = .ok (.iload_n 2, 1) := by decide +kernel
theorem dX9_worn_15 : decode cX9_worn 15 = .ok (.iconst 0, 1) := by decide +kernel
theorem dX9_worn_16 : decode cX9_worn 16 = .ok (.iconst 2, 1) := by decide +kernel
theorem dX9_worn_17 : decode cX9_worn 17 = .ok (.invokevirtual 397, 3) := by decide +kernel
theorem dX9_worn_20 : decode cX9_worn 20 = .ok (.ifCond .ne 5, 3) := by decide +kernel
theorem dX9_worn_23 : decode cX9_worn 23 = .ok (.iconst 0, 1) := by decide +kernel
theorem dX9_worn_24 : decode cX9_worn 24 = .ok (.ireturn, 1) := by decide +kernel
theorem dX9_worn_25 : decode cX9_worn 25 = .ok (.aload_n 0, 1) := by decide +kernel
theorem dX9_worn_26 : decode cX9_worn 26 = .ok (.iload_n 2, 1) := by decide +kernel
theorem dX9_worn_27 : decode cX9_worn 27 = .ok (.invokevirtual 400, 3) := by decide +kernel
theorem dX9_worn_30 : decode cX9_worn 30 = .ok (.aload_n 0, 1) := by decide +kernel
theorem dX9_worn_31 : decode cX9_worn 31 = .ok (.getfield 66, 3) := by decide +kernel
theorem dX9_worn_34 : decode cX9_worn 34 = .ok (.bipush 54, 2) := by decide +kernel
theorem dX9_worn_36 : decode cX9_worn 36 = .ok (.iload_n 1, 1) := by decide +kernel
theorem dX9_worn_37 : decode cX9_worn 37 = .ok (.iadd, 1) := by decide +kernel
theorem dX9_worn_38 : decode cX9_worn 38 = .ok (.iaload, 1) := by decide +kernel
theorem dX9_worn_39 : decode cX9_worn 39 = .ok (.ireturn, 1) := by decide +kernel
theorem dX9_burstsIn_0 : decode cX9_burstsIn 0 = .ok (.aload_n 0, 1) := by decide +kernel
theorem dX9_burstsIn_1 : decode cX9_burstsIn 1 = .ok (.invokevirtual 391, 3) := by decide +kernel
theorem dX9_burstsIn_4 : decode cX9_burstsIn 4 = .ok (.iconst 0, 1) := by decide +kernel
theorem dX9_burstsIn_5 : decode cX9_burstsIn 5 = .ok (.istore_n 2, 1) := by decide +kernel
theorem dX9_burstsIn_6 : decode cX9_burstsIn 6 = .ok (.iload_n 2, 1) := by decide +kernel
theorem dX9_burstsIn_7 : decode cX9_burstsIn 7 = .ok (.bipush 40, 2) := by decide +kernel
theorem dX9_burstsIn_9 : decode cX9_burstsIn 9 = .ok (.if_icmp .gt 27, 3) := by decide +kernel
theorem dX9_burstsIn_12 : decode cX9_burstsIn 12 = .ok (.aload_n 0, 1) := by decide +kernel
theorem dX9_burstsIn_13 : decode cX9_burstsIn 13 = .ok (.bipush 43, 2) := by decide +kernel
theorem dX9_burstsIn_15 : decode cX9_burstsIn 15 = .ok (.iload_n 1, 1) := by decide +kernel
theorem dX9_burstsIn_16 : decode cX9_burstsIn 16 = .ok (.invokevirtual 322, 3) := by decide +kernel
theorem dX9_burstsIn_19 : decode cX9_burstsIn 19 = .ok (.ifCond .eq 5, 3) := by decide +kernel
theorem dX9_burstsIn_22 : decode cX9_burstsIn 22 = .ok (.iload_n 2, 1) := by decide +kernel
theorem dX9_burstsIn_23 : decode cX9_burstsIn 23 = .ok (.ireturn, 1) := by decide +kernel
theorem dX9_burstsIn_24 : decode cX9_burstsIn 24 = .ok (.aload_n 0, 1) := by decide +kernel
theorem dX9_burstsIn_25 : decode cX9_burstsIn 25 = .ok (.bipush 43, 2) := by decide +kernel
theorem dX9_burstsIn_27 : decode cX9_burstsIn 27 = .ok (.invokevirtual 336, 3) := by decide +kernel
theorem dX9_burstsIn_30 : decode cX9_burstsIn 30 = .ok (.iinc 2 1, 3) := by decide +kernel
theorem dX9_burstsIn_33 : decode cX9_burstsIn 33 = .ok (.goto (-27), 3) := by decide +kernel
theorem dX9_burstsIn_36 : decode cX9_burstsIn 36 = .ok (.ldc_w 305, 3) := by decide +kernel
theorem dX9_burstsIn_39 : decode cX9_burstsIn 39 = .ok (.ireturn, 1) := by decide +kernel
theorem dX9_burst_0 : decode cX9_burst 0 = .ok (.aload_n 0, 1) := by decide +kernel
theorem dX9_burst_1 : decode cX9_burst 1 = .ok (.iconst 0, 1) := by decide +kernel
theorem dX9_burst_2 : decode cX9_burst 2 = .ok (.putfield 111, 3) := by decide +kernel
theorem dX9_burst_5 : decode cX9_burst 5 = .ok (.aload_n 0, 1) := by decide +kernel
theorem dX9_burst_6 : decode cX9_burst 6 = .ok (.iload_n 1, 1) := by decide +kernel
theorem dX9_burst_7 : decode cX9_burst 7 = .ok (.invokevirtual 367, 3) := by decide +kernel
theorem dX9_burst_10 : decode cX9_burst 10 = .ok (.ifCond .ne 5, 3) := by decide +kernel
theorem dX9_burst_13 : decode cX9_burst 13 = .ok (.iconst 0, 1) := by decide +kernel
theorem dX9_burst_14 : decode cX9_burst 14 = .ok (.ireturn, 1) := by decide +kernel
theorem dX9_burst_15 : decode cX9_burst 15 = .ok (.aload_n 0, 1) := by decide +kernel
theorem dX9_burst_16 : decode cX9_burst 16 = .ok (.iload_n 1, 1) := by decide +kernel
theorem dX9_burst_17 : decode cX9_burst 17 = .ok (.invokevirtual 403, 3) := by decide +kernel
theorem dX9_burst_20 : decode cX9_burst 20 = .ok (.istore_n 2, 1) := by decide +kernel
theorem dX9_burst_21 : decode cX9_burst 21 = .ok (.iload_n 2, 1) := by decide +kernel
theorem dX9_burst_22 : decode cX9_burst 22 = .ok (.ldc_w 305, 3) := by decide +kernel
theorem dX9_burst_25 : decode cX9_burst 25 = .ok (.if_icmp .ne 7, 3) := by decide +kernel
theorem dX9_burst_28 : decode cX9_burst 28 = .ok (.iconst (-1), 1) := by decide +kernel
theorem dX9_burst_29 : decode cX9_burst 29 = .ok (.goto 4, 3) := by decide +kernel
theorem dX9_burst_32 : decode cX9_burst 32 = .ok (.iload_n 2, 1) := by decide +kernel
theorem dX9_burst_33 : decode cX9_burst 33 = .ok (.ireturn, 1) := by decide +kernel
theorem dX9_wriggles_0 : decode cX9_wriggles 0 = .ok (.aload_n 0, 1) := by decide +kernel
theorem dX9_wriggles_1 : decode cX9_wriggles 1 = .ok (.iconst 0, 1) := by decide +kernel
theorem dX9_wriggles_2 : decode cX9_wriggles 2 = .ok (.putfield 111, 3) := by decide +kernel
theorem dX9_wriggles_5 : decode cX9_wriggles 5 = .ok (.aload_n 0, 1) := by decide +kernel
theorem dX9_wriggles_6 : decode cX9_wriggles 6 = .ok (.iload_n 1, 1) := by decide +kernel
theorem dX9_wriggles_7 : decode cX9_wriggles 7 = .ok (.invokevirtual 379, 3) := by decide +kernel
theorem dX9_wriggles_10 : decode cX9_wriggles 10 = .ok (.ifCond .ne 5, 3) := by decide +kernel
theorem dX9_wriggles_13 : decode cX9_wriggles 13 = .ok (.iconst 0, 1) := by decide +kernel
theorem dX9_wriggles_14 : decode cX9_wriggles 14 = .ok (.ireturn, 1) := by decide +kernel
theorem dX9_wriggles_15 : decode cX9_wriggles 15 = .ok (.aload_n 0, 1) := by decide +kernel
theorem dX9_wriggles_16 : decode cX9_wriggles 16 = .ok (.invokevirtual 391, 3) := by decide +kernel
theorem dX9_wriggles_19 : decode cX9_wriggles 19 = .ok (.iconst 1, 1) := by decide +kernel
theorem dX9_wriggles_20 : decode cX9_wriggles 20 = .ok (.istore_n 2, 1) := by decide +kernel
theorem dX9_wriggles_21 : decode cX9_wriggles 21 = .ok (.iload_n 2, 1) := by decide +kernel
theorem dX9_wriggles_22 : decode cX9_wriggles 22 = .ok (.bipush 40, 2) := by decide +kernel
theorem dX9_wriggles_24 : decode cX9_wriggles 24 = .ok (.if_icmp .gt 38, 3) := by decide +kernel
theorem dX9_wriggles_27 : decode cX9_wriggles 27 = .ok (.aload_n 0, 1) := by decide +kernel
theorem dX9_wriggles_28 : decode cX9_wriggles 28 = .ok (.bipush 43, 2) := by decide +kernel
theorem dX9_wriggles_30 : decode cX9_wriggles 30 = .ok (.invokevirtual 336, 3) := by decide +kernel
theorem dX9_wriggles_33 : decode cX9_wriggles 33 = .ok (.aload_n 0, 1) := by decide +kernel
theorem dX9_wriggles_34 : decode cX9_wriggles 34 = .ok (.getfield 66, 3) := by decide +kernel
theorem dX9_wriggles_37 : decode cX9_wriggles 37 = .ok (.bipush 78, 2) := by decide +kernel
theorem dX9_wriggles_39 : decode cX9_wriggles 39 = .ok (.iload_n 1, 1) := by decide +kernel
theorem dX9_wriggles_40 : decode cX9_wriggles 40 = .ok (.iadd, 1) := by decide +kernel
theorem dX9_wriggles_41 : decode cX9_wriggles 41 = .ok (.iaload, 1) := by decide +kernel
theorem dX9_wriggles_42 : decode cX9_wriggles 42 = .ok (.aload_n 0, 1) := by decide +kernel
theorem dX9_wriggles_43 : decode cX9_wriggles 43 = .ok (.getfield 66, 3) := by decide +kernel
theorem dX9_wriggles_46 : decode cX9_wriggles 46 = .ok (.bipush 35, 2) := by decide +kernel
theorem dX9_wriggles_48 : decode cX9_wriggles 48 = .ok (.iload_n 1, 1) := by decide +kernel
theorem dX9_wriggles_49 : decode cX9_wriggles 49 = .ok (.iadd, 1) := by decide +kernel
theorem dX9_wriggles_50 : decode cX9_wriggles 50 = .ok (.iaload, 1) := by decide +kernel
theorem dX9_wriggles_51 : decode cX9_wriggles 51 = .ok (.if_icmp .le 5, 3) := by decide +kernel
theorem dX9_wriggles_54 : decode cX9_wriggles 54 = .ok (.iload_n 2, 1) := by decide +kernel
theorem dX9_wriggles_55 : decode cX9_wriggles 55 = .ok (.ireturn, 1) := by decide +kernel
theorem dX9_wriggles_56 : decode cX9_wriggles 56 = .ok (.iinc 2 1, 3) := by decide +kernel
theorem dX9_wriggles_59 : decode cX9_wriggles 59 = .ok (.goto (-38), 3) := by decide +kernel
theorem dX9_wriggles_62 : decode cX9_wriggles 62 = .ok (.iconst (-1), 1) := by decide +kernel
theorem dX9_wriggles_63 : decode cX9_wriggles 63 = .ok (.ireturn, 1) := by decide +kernel
theorem dX9_barefoot_0 : decode cX9_barefoot 0 = .ok (.aload_n 0, 1) := by decide +kernel
theorem dX9_barefoot_1 : decode cX9_barefoot 1 = .ok (.iconst 0, 1) := by decide +kernel
theorem dX9_barefoot_2 : decode cX9_barefoot 2 = .ok (.putfield 111, 3) := by decide +kernel
theorem dX9_barefoot_5 : decode cX9_barefoot 5 = .ok (.aload_n 0, 1) := by decide +kernel
theorem dX9_barefoot_6 : decode cX9_barefoot 6 = .ok (.iload_n 1, 1) := by decide +kernel
theorem dX9_barefoot_7 : decode cX9_barefoot 7 = .ok (.iconst 0, 1) := by decide +kernel
theorem dX9_barefoot_8 : decode cX9_barefoot 8 = .ok (.iconst 1, 1) := by decide +kernel
theorem dX9_barefoot_9 : decode cX9_barefoot 9 = .ok (.invokevirtual 397, 3) := by decide +kernel
theorem dX9_barefoot_12 : decode cX9_barefoot 12 = .ok (.ifCond .ne 5, 3) := by decide +kernel
theorem dX9_barefoot_15 : decode cX9_barefoot 15 = .ok (.iconst 0, 1) := by decide +kernel
theorem dX9_barefoot_16 : decode cX9_barefoot 16 = .ok (.ireturn, 1) := by decide +kernel
theorem dX9_barefoot_17 : decode cX9_barefoot 17 = .ok (.aload_n 0, 1) := by decide +kernel
theorem dX9_barefoot_18 : decode cX9_barefoot 18 = .ok (.iload_n 1, 1) := by decide +kernel
theorem dX9_barefoot_19 : decode cX9_barefoot 19 = .ok (.invokevirtual 400, 3) := by decide +kernel
theorem dX9_barefoot_22 : decode cX9_barefoot 22 = .ok (.aload_n 0, 1) := by decide +kernel
theorem dX9_barefoot_23 : decode cX9_barefoot 23 = .ok (.bipush 43, 2) := by decide +kernel
theorem dX9_barefoot_25 : decode cX9_barefoot 25 = .ok (.invokevirtual 352, 3) := by decide +kernel
theorem dX9_barefoot_28 : decode cX9_barefoot 28 = .ok (.ireturn, 1) := by decide +kernel
theorem dX9_last_0 : decode cX9_last 0 = .ok (.aload_n 0, 1) := by decide +kernel
theorem dX9_last_1 : decode cX9_last 1 = .ok (.iconst 0, 1) := by decide +kernel
theorem dX9_last_2 : decode cX9_last 2 = .ok (.putfield 111, 3) := by decide +kernel
theorem dX9_last_5 : decode cX9_last 5 = .ok (.aload_n 0, 1) := by decide +kernel
theorem dX9_last_6 : decode cX9_last 6 = .ok (.iload_n 1, 1) := by decide +kernel
theorem dX9_last_7 : decode cX9_last 7 = .ok (.iconst 1, 1) := by decide +kernel
theorem dX9_last_8 : decode cX9_last 8 = .ok (.invokevirtual 370, 3) := by decide +kernel
theorem dX9_last_11 : decode cX9_last 11 = .ok (.ifCond .ne 5, 3) := by decide +kernel
theorem dX9_last_14 : decode cX9_last 14 = .ok (.iconst 0, 1) := by decide +kernel
theorem dX9_last_15 : decode cX9_last 15 = .ok (.ireturn, 1) := by decide +kernel
theorem dX9_last_16 : decode cX9_last 16 = .ok (.iconst (-1), 1) := by decide +kernel
theorem dX9_last_17 : decode cX9_last 17 = .ok (.istore_n 2, 1) := by decide +kernel
theorem dX9_last_18 : decode cX9_last 18 = .ok (.iconst (-1), 1) := by decide +kernel
theorem dX9_last_19 : decode cX9_last 19 = .ok (.istore_n 3, 1) := by decide +kernel
theorem dX9_last_20 : decode cX9_last 20 = .ok (.iconst 0, 1) := by decide +kernel
theorem dX9_last_21 : decode cX9_last 21 = .ok (.istore 4, 2) := by decide +kernel
theorem dX9_last_23 : decode cX9_last 23 = .ok (.iload 4, 2) := by decide +kernel
theorem dX9_last_25 : decode cX9_last 25 = .ok (.aload_n 0, 1) := by decide +kernel
theorem dX9_last_26 : decode cX9_last 26 = .ok (.getfield 275, 3) := by decide +kernel
theorem dX9_last_29 : decode cX9_last 29 = .ok (.if_icmp .ge 49, 3) := by decide +kernel
theorem dX9_last_32 : decode cX9_last 32 = .ok (.aload_n 0, 1) := by decide +kernel
theorem dX9_last_33 : decode cX9_last 33 = .ok (.getfield 66, 3) := by decide +kernel
theorem dX9_last_36 : decode cX9_last 36 = .ok (.bipush 19, 2) := by decide +kernel
theorem dX9_last_38 : decode cX9_last 38 = .ok (.iload 4, 2) := by decide +kernel
theorem dX9_last_40 : decode cX9_last 40 = .ok (.iadd, 1) := by decide +kernel
theorem dX9_last_41 : decode cX9_last 41 = .ok (.iaload, 1) := by decide +kernel
theorem dX9_last_42 : decode cX9_last 42 = .ok (.iconst (-1), 1) := by decide +kernel
theorem dX9_last_43 : decode cX9_last 43 = .ok (.if_icmp .ne 6, 3) := by decide +kernel
theorem dX9_last_46 : decode cX9_last 46 = .ok (.goto 26, 3) := by decide +kernel
theorem dX9_last_49 : decode cX9_last 49 = .ok (.aload_n 0, 1) := by decide +kernel
theorem dX9_last_50 : decode cX9_last 50 = .ok (.iload 4, 2) := by decide +kernel
theorem dX9_last_52 : decode cX9_last 52 = .ok (.invokevirtual 403, 3) := by decide +kernel
theorem dX9_last_55 : decode cX9_last 55 = .ok (.istore 5, 2) := by decide +kernel
theorem dX9_last_57 : decode cX9_last 57 = .ok (.iload 5, 2) := by decide +kernel
theorem dX9_last_59 : decode cX9_last 59 = .ok (.iload_n 3, 1) := by decide +kernel
theorem dX9_last_60 : decode cX9_last 60 = .ok (.if_icmp .gt 6, 3) := by decide +kernel
theorem dX9_last_63 : decode cX9_last 63 = .ok (.goto 9, 3) := by decide +kernel
theorem dX9_last_66 : decode cX9_last 66 = .ok (.iload 4, 2) := by decide +kernel
theorem dX9_last_68 : decode cX9_last 68 = .ok (.istore_n 2, 1) := by decide +kernel
theorem dX9_last_69 : decode cX9_last 69 = .ok (.iload 5, 2) := by decide +kernel
theorem dX9_last_71 : decode cX9_last 71 = .ok (.istore_n 3, 1) := by decide +kernel
theorem dX9_last_72 : decode cX9_last 72 = .ok (.iinc 4 1, 3) := by decide +kernel
theorem dX9_last_75 : decode cX9_last 75 = .ok (.goto (-52), 3) := by decide +kernel
theorem dX9_last_78 : decode cX9_last 78 = .ok (.iload_n 1, 1) := by decide +kernel
theorem dX9_last_79 : decode cX9_last 79 = .ok (.ifCond .ne 7, 3) := by decide +kernel
theorem dX9_last_82 : decode cX9_last 82 = .ok (.iload_n 2, 1) := by decide +kernel
theorem dX9_last_83 : decode cX9_last 83 = .ok (.goto 15, 3) := by decide +kernel
theorem dX9_last_86 : decode cX9_last 86 = .ok (.iload_n 3, 1) := by decide +kernel
theorem dX9_last_87 : decode cX9_last 87 = .ok (.ldc_w 305, 3) := by decide +kernel
theorem dX9_last_90 : decode cX9_last 90 = .ok (.if_icmp .ne 7, 3) := by decide +kernel
theorem dX9_last_93 : decode cX9_last 93 = .ok (.iconst (-1), 1) := by decide +kernel
theorem dX9_last_94 : decode cX9_last 94 = .ok (.goto 4, 3) := by decide +kernel
theorem dX9_last_97 : decode cX9_last 97 = .ok (.iload_n 3, 1) := by decide +kernel
theorem dX9_last_98 : decode cX9_last 98 = .ok (.ireturn, 1) := by decide +kernel
theorem dX9_goes_0 : decode cX9_goes 0 = .ok (.aload_n 0, 1) := by decide +kernel
theorem dX9_goes_1 : decode cX9_goes 1 = .ok (.iconst 0, 1) := by decide +kernel
theorem dX9_goes_2 : decode cX9_goes 2 = .ok (.putfield 111, 3) := by decide +kernel
theorem dX9_goes_5 : decode cX9_goes 5 = .ok (.aload_n 0, 1) := by decide +kernel
theorem dX9_goes_6 : decode cX9_goes 6 = .ok (.iload_n 1, 1) := by decide +kernel
theorem dX9_goes_7 : decode cX9_goes 7 = .ok (.invokevirtual 379, 3) := by decide +kernel
theorem dX9_goes_10 : decode cX9_goes 10 = .ok (.ifCond .ne 5, 3) := by decide +kernel
theorem dX9_goes_13 : decode cX9_goes 13 = .ok (.iconst 0, 1) := by decide +kernel
theorem dX9_goes_14 : decode cX9_goes 14 = .ok (.ireturn, 1) := by decide +kernel
theorem dX9_goes_15 : decode cX9_goes 15 = .ok (.iconst 0, 1) := by decide +kernel
theorem dX9_goes_16 : decode cX9_goes 16 = .ok (.istore_n 2, 1) := by decide +kernel
theorem dX9_goes_17 : decode cX9_goes 17 = .ok (.iconst 0, 1) := by decide +kernel
theorem dX9_goes_18 : decode cX9_goes 18 = .ok (.istore_n 3, 1) := by decide +kernel
theorem dX9_goes_19 : decode cX9_goes 19 = .ok (.iload_n 3, 1) := by decide +kernel
theorem dX9_goes_20 : decode cX9_goes 20 = .ok (.aload_n 0, 1) := by decide +kernel
theorem dX9_goes_21 : decode cX9_goes 21 = .ok (.getfield 275, 3) := by decide +kernel
theorem dX9_goes_24 : decode cX9_goes 24 = .ok (.if_icmp .ge 29, 3) := by decide +kernel
theorem dX9_goes_27 : decode cX9_goes 27 = .ok (.iload_n 2, 1) := by decide +kernel
theorem dX9_goes_28 : decode cX9_goes 28 = .ok (.aload_n 0, 1) := by decide +kernel
theorem dX9_goes_29 : decode cX9_goes 29 = .ok (.iconst 0, 1) := by decide +kernel
theorem dX9_goes_30 : decode cX9_goes 30 = .ok (.iload_n 1, 1) := by decide +kernel
theorem dX9_goes_31 : decode cX9_goes 31 = .ok (.iload_n 3, 1) := by decide +kernel
theorem dX9_goes_32 : decode cX9_goes 32 = .ok (.invokevirtual 388, 3) := by decide +kernel
theorem dX9_goes_35 : decode cX9_goes 35 = .ok (.ifCond .eq 9, 3) := by decide +kernel
theorem dX9_goes_38 : decode cX9_goes 38 = .ok (.iconst 1, 1) := by decide +kernel
theorem dX9_goes_39 : decode cX9_goes 39 = .ok (.iload_n 3, 1) := by decide +kernel
theorem dX9_goes_40 : decode cX9_goes 40 = .ok (.ishl, 1) := by decide +kernel
theorem dX9_goes_41 : decode cX9_goes 41 = .ok (.goto 4, 3) := by decide +kernel
theorem dX9_goes_44 : decode cX9_goes 44 = .ok (.iconst 0, 1) := by decide +kernel
theorem dX9_goes_45 : decode cX9_goes 45 = .ok (.ior, 1) := by decide +kernel
theorem dX9_goes_46 : decode cX9_goes 46 = .ok (.istore_n 2, 1) := by decide +kernel
theorem dX9_goes_47 : decode cX9_goes 47 = .ok (.iinc 3 1, 3) := by decide +kernel
theorem dX9_goes_50 : decode cX9_goes 50 = .ok (.goto (-31), 3) := by decide +kernel
theorem dX9_goes_53 : decode cX9_goes 53 = .ok (.iload_n 2, 1) := by decide +kernel
theorem dX9_goes_54 : decode cX9_goes 54 = .ok (.ireturn, 1) := by decide +kernel
theorem dX9_heirs_0 : decode cX9_heirs 0 = .ok (.aload_n 0, 1) := by decide +kernel
theorem dX9_heirs_1 : decode cX9_heirs 1 = .ok (.iconst 0, 1) := by decide +kernel
theorem dX9_heirs_2 : decode cX9_heirs 2 = .ok (.putfield 111, 3) := by decide +kernel
theorem dX9_heirs_5 : decode cX9_heirs 5 = .ok (.aload_n 0, 1) := by decide +kernel
theorem dX9_heirs_6 : decode cX9_heirs 6 = .ok (.iload_n 1, 1) := by decide +kernel
theorem dX9_heirs_7 : decode cX9_heirs 7 = .ok (.invokevirtual 367, 3) := by decide +kernel
theorem dX9_heirs_10 : decode cX9_heirs 10 = .ok (.ifCond .ne 5, 3) := by decide +kernel
theorem dX9_heirs_13 : decode cX9_heirs 13 = .ok (.iconst 0, 1) := by decide +kernel
theorem dX9_heirs_14 : decode cX9_heirs 14 = .ok (.ireturn, 1) := by decide +kernel
theorem dX9_heirs_15 : decode cX9_heirs 15 = .ok (.iconst 0, 1) := by decide +kernel
theorem dX9_heirs_16 : decode cX9_heirs 16 = .ok (.istore_n 2, 1) := by decide +kernel
theorem dX9_heirs_17 : decode cX9_heirs 17 = .ok (.iconst 0, 1) := by decide +kernel
theorem dX9_heirs_18 : decode cX9_heirs 18 = .ok (.istore_n 3, 1) := by decide +kernel
theorem dX9_heirs_19 : decode cX9_heirs 19 = .ok (.iload_n 3, 1) := by decide +kernel
theorem dX9_heirs_20 : decode cX9_heirs 20 = .ok (.aload_n 0, 1) := by decide +kernel
theorem dX9_heirs_21 : decode cX9_heirs 21 = .ok (.getfield 278, 3) := by decide +kernel
theorem dX9_heirs_24 : decode cX9_heirs 24 = .ok (.if_icmp .ge 29, 3) := by decide +kernel
theorem dX9_heirs_27 : decode cX9_heirs 27 = .ok (.iload_n 2, 1) := by decide +kernel
theorem dX9_heirs_28 : decode cX9_heirs 28 = .ok (.aload_n 0, 1) := by decide +kernel
theorem dX9_heirs_29 : decode cX9_heirs 29 = .ok (.iconst 0, 1) := by decide +kernel
theorem dX9_heirs_30 : decode cX9_heirs 30 = .ok (.iload_n 3, 1) := by decide +kernel
theorem dX9_heirs_31 : decode cX9_heirs 31 = .ok (.iload_n 1, 1) := by decide +kernel
theorem dX9_heirs_32 : decode cX9_heirs 32 = .ok (.invokevirtual 388, 3) := by decide +kernel
theorem dX9_heirs_35 : decode cX9_heirs 35 = .ok (.ifCond .eq 9, 3) := by decide +kernel
theorem dX9_heirs_38 : decode cX9_heirs 38 = .ok (.iconst 1, 1) := by decide +kernel
theorem dX9_heirs_39 : decode cX9_heirs 39 = .ok (.iload_n 3, 1) := by decide +kernel
theorem dX9_heirs_40 : decode cX9_heirs 40 = .ok (.ishl, 1) := by decide +kernel
theorem dX9_heirs_41 : decode cX9_heirs 41 = .ok (.goto 4, 3) := by decide +kernel
theorem dX9_heirs_44 : decode cX9_heirs 44 = .ok (.iconst 0, 1) := by decide +kernel
theorem dX9_heirs_45 : decode cX9_heirs 45 = .ok (.ior, 1) := by decide +kernel
theorem dX9_heirs_46 : decode cX9_heirs 46 = .ok (.istore_n 2, 1) := by decide +kernel
theorem dX9_heirs_47 : decode cX9_heirs 47 = .ok (.iinc 3 1, 3) := by decide +kernel
theorem dX9_heirs_50 : decode cX9_heirs 50 = .ok (.goto (-31), 3) := by decide +kernel
theorem dX9_heirs_53 : decode cX9_heirs 53 = .ok (.iload_n 2, 1) := by decide +kernel
theorem dX9_heirs_54 : decode cX9_heirs 54 = .ok (.ireturn, 1) := by decide +kernel
theorem dX9_leastOf_0 : decode cX9_leastOf 0 = .ok (.iload_n 1, 1) := by decide +kernel
theorem dX9_leastOf_1 : decode cX9_leastOf 1 = .ok (.aload_n 0, 1) := by decide +kernel
theorem dX9_leastOf_2 : decode cX9_leastOf 2 = .ok (.getfield 278, 3) := by decide +kernel
theorem dX9_leastOf_5 : decode cX9_leastOf 5 = .ok (.if_icmp .ne 7, 3) := by decide +kernel
theorem dX9_leastOf_8 : decode cX9_leastOf 8 = .ok (.iconst 0, 1) := by decide +kernel
theorem dX9_leastOf_9 : decode cX9_leastOf 9 = .ok (.goto 15, 3) := by decide +kernel
theorem dX9_leastOf_12 : decode cX9_leastOf 12 = .ok (.aload_n 0, 1) := by decide +kernel
theorem dX9_leastOf_13 : decode cX9_leastOf 13 = .ok (.getfield 81, 3) := by decide +kernel
theorem dX9_leastOf_16 : decode cX9_leastOf 16 = .ok (.sipush 256, 3) := by decide +kernel
theorem dX9_leastOf_19 : decode cX9_leastOf 19 = .ok (.iload_n 1, 1) := by decide +kernel
theorem dX9_leastOf_20 : decode cX9_leastOf 20 = .ok (.imul, 1) := by decide +kernel
theorem dX9_leastOf_21 : decode cX9_leastOf 21 = .ok (.iload_n 2, 1) := by decide +kernel
theorem dX9_leastOf_22 : decode cX9_leastOf 22 = .ok (.iadd, 1) := by decide +kernel
theorem dX9_leastOf_23 : decode cX9_leastOf 23 = .ok (.iaload, 1) := by decide +kernel
theorem dX9_leastOf_24 : decode cX9_leastOf 24 = .ok (.ireturn, 1) := by decide +kernel
theorem dX9_byHouse_0 : decode cX9_byHouse 0 = .ok (.aload_n 0, 1) := by decide +kernel
theorem dX9_byHouse_1 : decode cX9_byHouse 1 = .ok (.iconst 0, 1) := by decide +kernel
theorem dX9_byHouse_2 : decode cX9_byHouse 2 = .ok (.iload_n 1, 1) := by decide +kernel
theorem dX9_byHouse_3 : decode cX9_byHouse 3 = .ok (.iload_n 2, 1) := by decide +kernel
theorem dX9_byHouse_4 : decode cX9_byHouse 4 = .ok (.invokevirtual 312, 3) := by decide +kernel
theorem dX9_byHouse_7 : decode cX9_byHouse 7 = .ok (.aload_n 0, 1) := by decide +kernel
theorem dX9_byHouse_8 : decode cX9_byHouse 8 = .ok (.iload_n 1, 1) := by decide +kernel
theorem dX9_byHouse_9 : decode cX9_byHouse 9 = .ok (.iconst 1, 1) := by decide +kernel
theorem dX9_byHouse_10 : decode cX9_byHouse 10 = .ok (.iadd, 1) := by decide +kernel
theorem dX9_byHouse_11 : decode cX9_byHouse 11 = .ok (.iload_n 3, 1) := by decide +kernel
theorem dX9_byHouse_12 : decode cX9_byHouse 12 = .ok (.iconst 1, 1) := by decide +kernel
theorem dX9_byHouse_13 : decode cX9_byHouse 13 = .ok (.iload_n 2, 1) := by decide +kernel
theorem dX9_byHouse_14 : decode cX9_byHouse 14 = .ok (.ishl, 1) := by decide +kernel
theorem dX9_byHouse_15 : decode cX9_byHouse 15 = .ok (.ior, 1) := by decide +kernel
theorem dX9_byHouse_16 : decode cX9_byHouse 16 = .ok (.invokevirtual 406, 3) := by decide +kernel
theorem dX9_byHouse_19 : decode cX9_byHouse 19 = .ok (.iadd, 1) := by decide +kernel
theorem dX9_byHouse_20 : decode cX9_byHouse 20 = .ok (.ireturn, 1) := by decide +kernel
theorem dX9_laysMatch_0 : decode cX9_laysMatch 0 = .ok (.aload_n 0, 1) := by decide +kernel
theorem dX9_laysMatch_1 : decode cX9_laysMatch 1 = .ok (.getfield 278, 3) := by decide +kernel
theorem dX9_laysMatch_4 : decode cX9_laysMatch 4 = .ok (.iconst 1, 1) := by decide +kernel
theorem dX9_laysMatch_5 : decode cX9_laysMatch 5 = .ok (.isub, 1) := by decide +kernel
theorem dX9_laysMatch_6 : decode cX9_laysMatch 6 = .ok (.istore_n 1, 1) := by decide +kernel
theorem dX9_laysMatch_7 : decode cX9_laysMatch 7 = .ok (.iload_n 1, 1) := by decide +kernel
theorem dX9_laysMatch_8 : decode cX9_laysMatch 8 = .ok (.ifCond .lt 104, 3) := by decide +kernel
theorem dX9_laysMatch_11 : decode cX9_laysMatch 11 = .ok (.iconst 0, 1) := by decide +kernel
theorem dX9_laysMatch_12 : decode cX9_laysMatch 12 = .ok (.istore_n 2, 1) := by decide +kernel
theorem dX9_laysMatch_13 : decode cX9_laysMatch 13 = .ok (.iload_n 2, 1) := by decide +kernel
theorem dX9_laysMatch_14 : decode cX9_laysMatch 14 = .ok (.iconst 1, 1) := by decide +kernel
theorem dX9_laysMatch_15 : decode cX9_laysMatch 15 = .ok (.aload_n 0, 1) := by decide +kernel
theorem dX9_laysMatch_16 : decode cX9_laysMatch 16 = .ok (.getfield 275, 3) := by decide +kernel
theorem dX9_laysMatch_19 : decode cX9_laysMatch 19 = .ok (.ishl, 1) := by decide +kernel
theorem dX9_laysMatch_20 : decode cX9_laysMatch 20 = .ok (.if_icmp .ge 86, 3) := by decide +kernel
theorem dX9_laysMatch_23 : decode cX9_laysMatch 23 = .ok (.sipush 10000, 3) := by decide +kernel
theorem dX9_laysMatch_26 : decode cX9_laysMatch 26 = .ok (.aload_n 0, 1) := by decide +kernel
theorem dX9_laysMatch_27 : decode cX9_laysMatch 27 = .ok (.iload_n 1, 1) := by decide +kernel
theorem dX9_laysMatch_28 : decode cX9_laysMatch 28 = .ok (.iconst 1, 1) := by decide +kernel
theorem dX9_laysMatch_29 : decode cX9_laysMatch 29 = .ok (.iadd, 1) := by decide +kernel
theorem dX9_laysMatch_30 : decode cX9_laysMatch 30 = .ok (.iload_n 2, 1) := by decide +kernel
theorem dX9_laysMatch_31 : decode cX9_laysMatch 31 = .ok (.invokevirtual 406, 3) := by decide +kernel
theorem dX9_laysMatch_34 : decode cX9_laysMatch 34 = .ok (.iadd, 1) := by decide +kernel
theorem dX9_laysMatch_35 : decode cX9_laysMatch 35 = .ok (.istore_n 3, 1) := by decide +kernel
theorem dX9_laysMatch_36 : decode cX9_laysMatch 36 = .ok (.iconst 0, 1) := by decide +kernel
theorem dX9_laysMatch_37 : decode cX9_laysMatch 37 = .ok (.istore 4, 2) := by decide +kernel
theorem dX9_laysMatch_39 : decode cX9_laysMatch 39 = .ok (.iload 4, 2) := by decide +kernel
theorem dX9_laysMatch_41 : decode cX9_laysMatch 41 = .ok (.aload_n 0, 1) := by decide +kernel
theorem dX9_laysMatch_42 : decode cX9_laysMatch 42 = .ok (.getfield 275, 3) := by decide +kernel
theorem dX9_laysMatch_45 : decode cX9_laysMatch 45 = .ok (.if_icmp .ge 42, 3) := by decide +kernel
theorem dX9_laysMatch_48 : decode cX9_laysMatch 48 = .ok (.iload_n 2, 1) := by decide +kernel
theorem dX9_laysMatch_49 : decode cX9_laysMatch 49 = .ok (.iload 4, 2) := by decide +kernel
theorem dX9_laysMatch_51 : decode cX9_laysMatch 51 = .ok (.ishr, 1) := by decide +kernel
theorem dX9_laysMatch_52 : decode cX9_laysMatch 52 = .ok (.iconst 1, 1) := by decide +kernel
theorem dX9_laysMatch_53 : decode cX9_laysMatch 53 = .ok (.iand, 1) := by decide +kernel
theorem dX9_laysMatch_54 : decode cX9_laysMatch 54 = .ok (.ifCond .ne 27, 3) := by decide +kernel
theorem dX9_laysMatch_57 : decode cX9_laysMatch 57 = .ok (.aload_n 0, 1) := by decide +kernel
theorem dX9_laysMatch_58 : decode cX9_laysMatch 58 = .ok (.iconst 0, 1) := by decide +kernel
theorem dX9_laysMatch_59 : decode cX9_laysMatch 59 = .ok (.iload_n 1, 1) := by decide +kernel
theorem dX9_laysMatch_60 : decode cX9_laysMatch 60 = .ok (.iload 4, 2) := by decide +kernel
theorem dX9_laysMatch_62 : decode cX9_laysMatch 62 = .ok (.invokevirtual 388, 3) := by decide +kernel
theorem dX9_laysMatch_65 : decode cX9_laysMatch 65 = .ok (.ifCond .eq 16, 3) := by decide +kernel
theorem dX9_laysMatch_68 : decode cX9_laysMatch 68 = .ok (.iload_n 3, 1) := by decide +kernel
theorem dX9_laysMatch_69 : decode cX9_laysMatch 69 = .ok (.aload_n 0, 1) := by decide +kernel
theorem dX9_laysMatch_70 : decode cX9_laysMatch 70 = .ok (.iload_n 1, 1) := by decide +kernel
theorem dX9_laysMatch_71 : decode cX9_laysMatch 71 = .ok (.iload 4, 2) := by decide +kernel
theorem dX9_laysMatch_73 : decode cX9_laysMatch 73 = .ok (.iload_n 2, 1) := by decide +kernel
theorem dX9_laysMatch_74 : decode cX9_laysMatch 74 = .ok (.invokevirtual 409, 3) := by decide +kernel
theorem dX9_laysMatch_77 : decode cX9_laysMatch 77 = .ok (.invokestatic 329, 3) := by decide +kernel
theorem dX9_laysMatch_80 : decode cX9_laysMatch 80 = .ok (.istore_n 3, 1) := by decide +kernel
theorem dX9_laysMatch_81 : decode cX9_laysMatch 81 = .ok (.iinc 4 1, 3) := by decide +kernel
theorem dX9_laysMatch_84 : decode cX9_laysMatch 84 = .ok (.goto (-45), 3) := by decide +kernel
theorem dX9_laysMatch_87 : decode cX9_laysMatch 87 = .ok (.aload_n 0, 1) := by decide +kernel
theorem dX9_laysMatch_88 : decode cX9_laysMatch 88 = .ok (.getfield 81, 3) := by decide +kernel
theorem dX9_laysMatch_91 : decode cX9_laysMatch 91 = .ok (.sipush 256, 3) := by decide +kernel
theorem dX9_laysMatch_94 : decode cX9_laysMatch 94 = .ok (.iload_n 1, 1) := by decide +kernel
theorem dX9_laysMatch_95 : decode cX9_laysMatch 95 = .ok (.imul, 1) := by decide +kernel
theorem dX9_laysMatch_96 : decode cX9_laysMatch 96 = .ok (.iload_n 2, 1) := by decide +kernel
theorem dX9_laysMatch_97 : decode cX9_laysMatch 97 = .ok (.iadd, 1) := by decide +kernel
theorem dX9_laysMatch_98 : decode cX9_laysMatch 98 = .ok (.iload_n 3, 1) := by decide +kernel
theorem dX9_laysMatch_99 : decode cX9_laysMatch 99 = .ok (.iastore, 1) := by decide +kernel
theorem dX9_laysMatch_100 : decode cX9_laysMatch 100 = .ok (.iinc 2 1, 3) := by decide +kernel
theorem dX9_laysMatch_103 : decode cX9_laysMatch 103 = .ok (.goto (-90), 3) := by decide +kernel
theorem dX9_laysMatch_106 : decode cX9_laysMatch 106 = .ok (.iinc 1 (-1), 3) := by decide +kernel
theorem dX9_laysMatch_109 : decode cX9_laysMatch 109 = .ok (.goto (-102), 3) := by decide +kernel
theorem dX9_laysMatch_112 : decode cX9_laysMatch 112 = .ok (.return_, 1) := by decide +kernel
theorem dX9_match_0 : decode cX9_match 0 = .ok (.aload_n 0, 1) := by decide +kernel
theorem dX9_match_1 : decode cX9_match 1 = .ok (.iconst 0, 1) := by decide +kernel
theorem dX9_match_2 : decode cX9_match 2 = .ok (.putfield 111, 3) := by decide +kernel
theorem dX9_match_5 : decode cX9_match 5 = .ok (.aload_n 0, 1) := by decide +kernel
theorem dX9_match_6 : decode cX9_match 6 = .ok (.iload_n 1, 1) := by decide +kernel
theorem dX9_match_7 : decode cX9_match 7 = .ok (.iconst 1, 1) := by decide +kernel
theorem dX9_match_8 : decode cX9_match 8 = .ok (.invokevirtual 370, 3) := by decide +kernel
theorem dX9_match_11 : decode cX9_match 11 = .ok (.ifCond .ne 5, 3) := by decide +kernel
theorem dX9_match_14 : decode cX9_match 14 = .ok (.iconst 0, 1) := by decide +kernel
theorem dX9_match_15 : decode cX9_match 15 = .ok (.ireturn, 1) := by decide +kernel
theorem dX9_match_16 : decode cX9_match 16 = .ok (.aload_n 0, 1) := by decide +kernel
theorem dX9_match_17 : decode cX9_match 17 = .ok (.invokevirtual 412, 3) := by decide +kernel
theorem dX9_match_20 : decode cX9_match 20 = .ok (.aload_n 0, 1) := by decide +kernel
theorem dX9_match_21 : decode cX9_match 21 = .ok (.iconst 0, 1) := by decide +kernel
theorem dX9_match_22 : decode cX9_match 22 = .ok (.iconst 0, 1) := by decide +kernel
theorem dX9_match_23 : decode cX9_match 23 = .ok (.invokevirtual 406, 3) := by decide +kernel
theorem dX9_match_26 : decode cX9_match 26 = .ok (.istore_n 2, 1) := by decide +kernel
theorem dX9_match_27 : decode cX9_match 27 = .ok (.iload_n 1, 1) := by decide +kernel
theorem dX9_match_28 : decode cX9_match 28 = .ok (.ifCond .ne 11, 3) := by decide +kernel
theorem dX9_match_31 : decode cX9_match 31 = .ok (.iload_n 2, 1) := by decide +kernel
theorem dX9_match_32 : decode cX9_match 32 = .ok (.sipush 10000, 3) := by decide +kernel
theorem dX9_match_35 : decode cX9_match 35 = .ok (.idiv, 1) := by decide +kernel
theorem dX9_match_36 : decode cX9_match 36 = .ok (.goto 8, 3) := by decide +kernel
theorem dX9_match_39 : decode cX9_match 39 = .ok (.iload_n 2, 1) := by decide +kernel
theorem dX9_match_40 : decode cX9_match 40 = .ok (.sipush 10000, 3) := by decide +kernel
theorem dX9_match_43 : decode cX9_match 43 = .ok (.irem, 1) := by decide +kernel
theorem dX9_match_44 : decode cX9_match 44 = .ok (.ireturn, 1) := by decide +kernel
theorem dX9_matched_0 : decode cX9_matched 0 = .ok (.aload_n 0, 1) := by decide +kernel
theorem dX9_matched_1 : decode cX9_matched 1 = .ok (.iconst 0, 1) := by decide +kernel
theorem dX9_matched_2 : decode cX9_matched 2 = .ok (.putfield 111, 3) := by decide +kernel
theorem dX9_matched_5 : decode cX9_matched 5 = .ok (.aload_n 0, 1) := by decide +kernel
theorem dX9_matched_6 : decode cX9_matched 6 = .ok (.iload_n 1, 1) := by decide +kernel
theorem dX9_matched_7 : decode cX9_matched 7 = .ok (.invokevirtual 379, 3) := by decide +kernel
theorem dX9_matched_10 : decode cX9_matched 10 = .ok (.ifCond .ne 5, 3) := by decide +kernel
theorem dX9_matched_13 : decode cX9_matched 13 = .ok (.iconst 0, 1) := by decide +kernel
theorem dX9_matched_14 : decode cX9_matched 14 = .ok (.ireturn, 1) := by decide +kernel
theorem dX9_matched_15 : decode cX9_matched 15 = .ok (.aload_n 0, 1) := by decide +kernel
theorem dX9_matched_16 : decode cX9_matched 16 = .ok (.invokevirtual 412, 3) := by decide +kernel
theorem dX9_matched_19 : decode cX9_matched 19 = .ok (.iconst 0, 1) := by decide +kernel
theorem dX9_matched_20 : decode cX9_matched 20 = .ok (.istore_n 2, 1) := by decide +kernel
theorem dX9_matched_21 : decode cX9_matched 21 = .ok (.iconst (-1), 1) := by decide +kernel
theorem dX9_matched_22 : decode cX9_matched 22 = .ok (.istore_n 3, 1) := by decide +kernel
theorem dX9_matched_23 : decode cX9_matched 23 = .ok (.iconst 0, 1) := by decide +kernel
theorem dX9_matched_24 : decode cX9_matched 24 = .ok (.istore 4, 2) := by decide +kernel
theorem dX9_matched_26 : decode cX9_matched 26 = .ok (.iload 4, 2) := by decide +kernel
theorem dX9_matched_28 : decode cX9_matched 28 = .ok (.iload_n 1, 1) := by decide +kernel
theorem dX9_matched_29 : decode cX9_matched 29 = .ok (.if_icmp .gt 84, 3) := by decide +kernel
theorem dX9_matched_32 : decode cX9_matched 32 = .ok (.iconst (-1), 1) := by decide +kernel
theorem dX9_matched_33 : decode cX9_matched 33 = .ok (.istore_n 3, 1) := by decide +kernel
theorem dX9_matched_34 : decode cX9_matched 34 = .ok (.aload_n 0, 1) := by decide +kernel
theorem dX9_matched_35 : decode cX9_matched 35 = .ok (.getfield 275, 3) := by decide +kernel
theorem dX9_matched_38 : decode cX9_matched 38 = .ok (.iconst 1, 1) := by decide +kernel
theorem dX9_matched_39 : decode cX9_matched 39 = .ok (.isub, 1) := by decide +kernel
theorem dX9_matched_40 : decode cX9_matched 40 = .ok (.istore 5, 2) := by decide +kernel
theorem dX9_matched_42 : decode cX9_matched 42 = .ok (.iload 5, 2) := by decide +kernel
theorem dX9_matched_44 : decode cX9_matched 44 = .ok (.ifCond .lt 52, 3) := by decide +kernel
theorem dX9_matched_47 : decode cX9_matched 47 = .ok (.iload_n 2, 1) := by decide +kernel
theorem dX9_matched_48 : decode cX9_matched 48 = .ok (.iload 5, 2) := by decide +kernel
theorem dX9_matched_50 : decode cX9_matched 50 = .ok (.ishr, 1) := by decide +kernel
theorem dX9_matched_51 : decode cX9_matched 51 = .ok (.iconst 1, 1) := by decide +kernel
theorem dX9_matched_52 : decode cX9_matched 52 = .ok (.iand, 1) := by decide +kernel
theorem dX9_matched_53 : decode cX9_matched 53 = .ok (.ifCond .ne 37, 3) := by decide +kernel
theorem dX9_matched_56 : decode cX9_matched 56 = .ok (.aload_n 0, 1) := by decide +kernel
theorem dX9_matched_57 : decode cX9_matched 57 = .ok (.iconst 0, 1) := by decide +kernel
theorem dX9_matched_58 : decode cX9_matched 58 = .ok (.iload 4, 2) := by decide +kernel
theorem dX9_matched_60 : decode cX9_matched 60 = .ok (.iload 5, 2) := by decide +kernel
theorem dX9_matched_62 : decode cX9_matched 62 = .ok (.invokevirtual 388, 3) := by decide +kernel
theorem dX9_matched_65 : decode cX9_matched 65 = .ok (.ifCond .eq 25, 3) := by decide +kernel
theorem dX9_matched_68 : decode cX9_matched 68 = .ok (.aload_n 0, 1) := by decide +kernel
theorem dX9_matched_69 : decode cX9_matched 69 = .ok (.iload 4, 2) := by decide +kernel
theorem dX9_matched_71 : decode cX9_matched 71 = .ok (.iload 5, 2) := by decide +kernel
theorem dX9_matched_73 : decode cX9_matched 73 = .ok (.iload_n 2, 1) := by decide +kernel
theorem dX9_matched_74 : decode cX9_matched 74 = .ok (.invokevirtual 409, 3) := by decide +kernel
theorem dX9_matched_77 : decode cX9_matched 77 = .ok (.aload_n 0, 1) := by decide +kernel
theorem dX9_matched_78 : decode cX9_matched 78 = .ok (.iload 4, 2) := by decide +kernel
theorem dX9_matched_80 : decode cX9_matched 80 = .ok (.iload_n 2, 1) := by decide +kernel
theorem dX9_matched_81 : decode cX9_matched 81 = .ok (.invokevirtual 406, 3) := by decide +kernel
theorem dX9_matched_84 : decode cX9_matched 84 = .ok (.if_icmp .ne 6, 3) := by decide +kernel
theorem dX9_matched_87 : decode cX9_matched 87 = .ok (.iload 5, 2) := by decide +kernel
theorem dX9_matched_89 : decode cX9_matched 89 = .ok (.istore_n 3, 1) := by decide +kernel
theorem dX9_matched_90 : decode cX9_matched 90 = .ok (.iinc 5 (-1), 3) := by decide +kernel
theorem dX9_matched_93 : decode cX9_matched 93 = .ok (.goto (-51), 3) := by decide +kernel
theorem dX9_matched_96 : decode cX9_matched 96 = .ok (.iload_n 3, 1) := by decide +kernel
theorem dX9_matched_97 : decode cX9_matched 97 = .ok (.iconst (-1), 1) := by decide +kernel
theorem dX9_matched_98 : decode cX9_matched 98 = .ok (.if_icmp .eq 9, 3) := by decide +kernel
theorem dX9_matched_101 : decode cX9_matched 101 = .ok (.iload_n 2, 1) := by decide +kernel
theorem dX9_matched_102 : decode cX9_matched 102 = .ok (.iconst 1, 1) := by decide +kernel
theorem dX9_matched_103 : decode cX9_matched 103 = .ok (.iload_n 3, 1) := by decide +kernel
theorem dX9_matched_104 : decode cX9_matched 104 = .ok (.ishl, 1) := by decide +kernel
theorem dX9_matched_105 : decode cX9_matched 105 = .ok (.ior, 1) := by decide +kernel
theorem dX9_matched_106 : decode cX9_matched 106 = .ok (.istore_n 2, 1) := by decide +kernel
theorem dX9_matched_107 : decode cX9_matched 107 = .ok (.iinc 4 1, 3) := by decide +kernel
theorem dX9_matched_110 : decode cX9_matched 110 = .ok (.goto (-84), 3) := by decide +kernel
theorem dX9_matched_113 : decode cX9_matched 113 = .ok (.iload_n 3, 1) := by decide +kernel
theorem dX9_matched_114 : decode cX9_matched 114 = .ok (.ireturn, 1) := by decide +kernel
theorem dX9_needed_0 : decode cX9_needed 0 = .ok (.aload_n 0, 1) := by decide +kernel
theorem dX9_needed_1 : decode cX9_needed 1 = .ok (.invokevirtual 412, 3) := by decide +kernel
theorem dX9_needed_4 : decode cX9_needed 4 = .ok (.aload_n 0, 1) := by decide +kernel
theorem dX9_needed_5 : decode cX9_needed 5 = .ok (.iconst 0, 1) := by decide +kernel
theorem dX9_needed_6 : decode cX9_needed 6 = .ok (.iconst 0, 1) := by decide +kernel
theorem dX9_needed_7 : decode cX9_needed 7 = .ok (.invokevirtual 406, 3) := by decide +kernel
theorem dX9_needed_10 : decode cX9_needed 10 = .ok (.sipush 10000, 3) := by decide +kernel
theorem dX9_needed_13 : decode cX9_needed 13 = .ok (.idiv, 1) := by decide +kernel
theorem dX9_needed_14 : decode cX9_needed 14 = .ok (.istore_n 1, 1) := by decide +kernel
theorem dX9_needed_15 : decode cX9_needed 15 = .ok (.iconst 0, 1) := by decide +kernel
theorem dX9_needed_16 : decode cX9_needed 16 = .ok (.istore_n 2, 1) := by decide +kernel
theorem dX9_needed_17 : decode cX9_needed 17 = .ok (.iconst 0, 1) := by decide +kernel
theorem dX9_needed_18 : decode cX9_needed 18 = .ok (.istore_n 3, 1) := by decide +kernel
theorem dX9_needed_19 : decode cX9_needed 19 = .ok (.iload_n 3, 1) := by decide +kernel
theorem dX9_needed_20 : decode cX9_needed 20 = .ok (.aload_n 0, 1) := by decide +kernel
theorem dX9_needed_21 : decode cX9_needed 21 = .ok (.getfield 275, 3) := by decide +kernel
theorem dX9_needed_24 : decode cX9_needed 24 = .ok (.if_icmp .ge 44, 3) := by decide +kernel
theorem dX9_needed_27 : decode cX9_needed 27 = .ok (.iload_n 2, 1) := by decide +kernel
theorem dX9_needed_28 : decode cX9_needed 28 = .ok (.aload_n 0, 1) := by decide +kernel
theorem dX9_needed_29 : decode cX9_needed 29 = .ok (.iconst 0, 1) := by decide +kernel
theorem dX9_needed_30 : decode cX9_needed 30 = .ok (.iload_n 3, 1) := by decide +kernel
theorem dX9_needed_31 : decode cX9_needed 31 = .ok (.invokevirtual 322, 3) := by decide +kernel
theorem dX9_needed_34 : decode cX9_needed 34 = .ok (.ifCond .ne 25, 3) := by decide +kernel
theorem dX9_needed_37 : decode cX9_needed 37 = .ok (.aload_n 0, 1) := by decide +kernel
theorem dX9_needed_38 : decode cX9_needed 38 = .ok (.iconst 0, 1) := by decide +kernel
theorem dX9_needed_39 : decode cX9_needed 39 = .ok (.iconst 1, 1) := by decide +kernel
theorem dX9_needed_40 : decode cX9_needed 40 = .ok (.iload_n 3, 1) := by decide +kernel
theorem dX9_needed_41 : decode cX9_needed 41 = .ok (.ishl, 1) := by decide +kernel
theorem dX9_needed_42 : decode cX9_needed 42 = .ok (.invokevirtual 406, 3) := by decide +kernel
theorem dX9_needed_45 : decode cX9_needed 45 = .ok (.sipush 10000, 3) := by decide +kernel
theorem dX9_needed_48 : decode cX9_needed 48 = .ok (.idiv, 1) := by decide +kernel
theorem dX9_needed_49 : decode cX9_needed 49 = .ok (.iload_n 1, 1) := by decide +kernel
theorem dX9_needed_50 : decode cX9_needed 50 = .ok (.if_icmp .le 9, 3) := by decide +kernel
theorem dX9_needed_53 : decode cX9_needed 53 = .ok (.iconst 1, 1) := by decide +kernel
theorem dX9_needed_54 : decode cX9_needed 54 = .ok (.iload_n 3, 1) := by decide +kernel
theorem dX9_needed_55 : decode cX9_needed 55 = .ok (.ishl, 1) := by decide +kernel
theorem dX9_needed_56 : decode cX9_needed 56 = .ok (.goto 4, 3) := by decide +kernel
theorem dX9_needed_59 : decode cX9_needed 59 = .ok (.iconst 0, 1) := by decide +kernel
theorem dX9_needed_60 : decode cX9_needed 60 = .ok (.ior, 1) := by decide +kernel
theorem dX9_needed_61 : decode cX9_needed 61 = .ok (.istore_n 2, 1) := by decide +kernel
theorem dX9_needed_62 : decode cX9_needed 62 = .ok (.iinc 3 1, 3) := by decide +kernel
theorem dX9_needed_65 : decode cX9_needed 65 = .ok (.goto (-46), 3) := by decide +kernel
theorem dX9_needed_68 : decode cX9_needed 68 = .ok (.iload_n 2, 1) := by decide +kernel
theorem dX9_needed_69 : decode cX9_needed 69 = .ok (.ireturn, 1) := by decide +kernel
theorem dX9_wantOf_0 : decode cX9_wantOf 0 = .ok (.iconst (-1), 1) := by decide +kernel
theorem dX9_wantOf_1 : decode cX9_wantOf 1 = .ok (.istore_n 3, 1) := by decide +kernel
theorem dX9_wantOf_2 : decode cX9_wantOf 2 = .ok (.iconst 0, 1) := by decide +kernel
theorem dX9_wantOf_3 : decode cX9_wantOf 3 = .ok (.istore 4, 2) := by decide +kernel
theorem dX9_wantOf_5 : decode cX9_wantOf 5 = .ok (.iload 4, 2) := by decide +kernel
theorem dX9_wantOf_7 : decode cX9_wantOf 7 = .ok (.aload_n 0, 1) := by decide +kernel
theorem dX9_wantOf_8 : decode cX9_wantOf 8 = .ok (.getfield 275, 3) := by decide +kernel
theorem dX9_wantOf_11 : decode cX9_wantOf 11 = .ok (.if_icmp .ge 73, 3) := by decide +kernel
theorem dX9_wantOf_14 : decode cX9_wantOf 14 = .ok (.iload_n 2, 1) := by decide +kernel
theorem dX9_wantOf_15 : decode cX9_wantOf 15 = .ok (.iload 4, 2) := by decide +kernel
theorem dX9_wantOf_17 : decode cX9_wantOf 17 = .ok (.ishr, 1) := by decide +kernel
theorem dX9_wantOf_18 : decode cX9_wantOf 18 = .ok (.iconst 1, 1) := by decide +kernel
theorem dX9_wantOf_19 : decode cX9_wantOf 19 = .ok (.iand, 1) := by decide +kernel
theorem dX9_wantOf_20 : decode cX9_wantOf 20 = .ok (.ifCond .ne 6, 3) := by decide +kernel
theorem dX9_wantOf_23 : decode cX9_wantOf 23 = .ok (.goto 55, 3) := by decide +kernel
theorem dX9_wantOf_26 : decode cX9_wantOf 26 = .ok (.iload_n 3, 1) := by decide +kernel
theorem dX9_wantOf_27 : decode cX9_wantOf 27 = .ok (.iconst (-1), 1) := by decide +kernel
theorem dX9_wantOf_28 : decode cX9_wantOf 28 = .ok (.if_icmp .eq 47, 3) := by decide +kernel
theorem dX9_wantOf_31 : decode cX9_wantOf 31 = .ok (.aload_n 0, 1) := by decide +kernel
theorem dX9_wantOf_32 : decode cX9_wantOf 32 = .ok (.getfield 66, 3) := by decide +kernel
theorem dX9_wantOf_35 : decode cX9_wantOf 35 = .ok (.iconst 3, 1) := by decide +kernel
theorem dX9_wantOf_36 : decode cX9_wantOf 36 = .ok (.iload 4, 2) := by decide +kernel
theorem dX9_wantOf_38 : decode cX9_wantOf 38 = .ok (.iadd, 1) := by decide +kernel
theorem dX9_wantOf_39 : decode cX9_wantOf 39 = .ok (.iaload, 1) := by decide +kernel
theorem dX9_wantOf_40 : decode cX9_wantOf 40 = .ok (.aload_n 0, 1) := by decide +kernel
theorem dX9_wantOf_41 : decode cX9_wantOf 41 = .ok (.getfield 66, 3) := by decide +kernel
theorem dX9_wantOf_44 : decode cX9_wantOf 44 = .ok (.bipush 27, 2) := by decide +kernel
theorem dX9_wantOf_46 : decode cX9_wantOf 46 = .ok (.iload_n 1, 1) := by decide +kernel
theorem dX9_wantOf_47 : decode cX9_wantOf 47 = .ok (.iadd, 1) := by decide +kernel
theorem dX9_wantOf_48 : decode cX9_wantOf 48 = .ok (.iaload, 1) := by decide +kernel
theorem dX9_wantOf_49 : decode cX9_wantOf 49 = .ok (.invokestatic 364, 3) := by decide +kernel
theorem dX9_wantOf_52 : decode cX9_wantOf 52 = .ok (.aload_n 0, 1) := by decide +kernel
theorem dX9_wantOf_53 : decode cX9_wantOf 53 = .ok (.getfield 66, 3) := by decide +kernel
theorem dX9_wantOf_56 : decode cX9_wantOf 56 = .ok (.iconst 3, 1) := by decide +kernel
theorem dX9_wantOf_57 : decode cX9_wantOf 57 = .ok (.iload_n 3, 1) := by decide +kernel
theorem dX9_wantOf_58 : decode cX9_wantOf 58 = .ok (.iadd, 1) := by decide +kernel
theorem dX9_wantOf_59 : decode cX9_wantOf 59 = .ok (.iaload, 1) := by decide +kernel
theorem dX9_wantOf_60 : decode cX9_wantOf 60 = .ok (.aload_n 0, 1) := by decide +kernel
theorem dX9_wantOf_61 : decode cX9_wantOf 61 = .ok (.getfield 66, 3) := by decide +kernel
theorem dX9_wantOf_64 : decode cX9_wantOf 64 = .ok (.bipush 27, 2) := by decide +kernel
theorem dX9_wantOf_66 : decode cX9_wantOf 66 = .ok (.iload_n 1, 1) := by decide +kernel
theorem dX9_wantOf_67 : decode cX9_wantOf 67 = .ok (.iadd, 1) := by decide +kernel
theorem dX9_wantOf_68 : decode cX9_wantOf 68 = .ok (.iaload, 1) := by decide +kernel
theorem dX9_wantOf_69 : decode cX9_wantOf 69 = .ok (.invokestatic 364, 3) := by decide +kernel
theorem dX9_wantOf_72 : decode cX9_wantOf 72 = .ok (.if_icmp .ge 6, 3) := by decide +kernel
theorem dX9_wantOf_75 : decode cX9_wantOf 75 = .ok (.iload 4, 2) := by decide +kernel
theorem dX9_wantOf_77 : decode cX9_wantOf 77 = .ok (.istore_n 3, 1) := by decide +kernel
theorem dX9_wantOf_78 : decode cX9_wantOf 78 = .ok (.iinc 4 1, 3) := by decide +kernel
theorem dX9_wantOf_81 : decode cX9_wantOf 81 = .ok (.goto (-76), 3) := by decide +kernel
theorem dX9_wantOf_84 : decode cX9_wantOf 84 = .ok (.iload_n 3, 1) := by decide +kernel
theorem dX9_wantOf_85 : decode cX9_wantOf 85 = .ok (.ireturn, 1) := by decide +kernel
theorem dX9_ringOf_0 : decode cX9_ringOf 0 = .ok (.iload_n 1, 1) := by decide +kernel
theorem dX9_ringOf_1 : decode cX9_ringOf 1 = .ok (.istore_n 2, 1) := by decide +kernel
theorem dX9_ringOf_2 : decode cX9_ringOf 2 = .ok (.iconst 1, 1) := by decide +kernel
theorem dX9_ringOf_3 : decode cX9_ringOf 3 = .ok (.istore_n 3, 1) := by decide +kernel
theorem dX9_ringOf_4 : decode cX9_ringOf 4 = .ok (.iload_n 3, 1) := by decide +kernel
theorem dX9_ringOf_5 : decode cX9_ringOf 5 = .ok (.bipush 8, 2) := by decide +kernel
theorem dX9_ringOf_7 : decode cX9_ringOf 7 = .ok (.if_icmp .gt 31, 3) := by decide +kernel
theorem dX9_ringOf_10 : decode cX9_ringOf 10 = .ok (.aload_n 0, 1) := by decide +kernel
theorem dX9_ringOf_11 : decode cX9_ringOf 11 = .ok (.getfield 66, 3) := by decide +kernel
theorem dX9_ringOf_14 : decode cX9_ringOf 14 = .ok (.bipush 19, 2) := by decide +kernel
theorem dX9_ringOf_16 : decode cX9_ringOf 16 = .ok (.aload_n 0, 1) := by decide +kernel
theorem dX9_ringOf_17 : decode cX9_ringOf 17 = .ok (.getfield 84, 3) := by decide +kernel
theorem dX9_ringOf_20 : decode cX9_ringOf 20 = .ok (.iload_n 2, 1) := by decide +kernel
theorem dX9_ringOf_21 : decode cX9_ringOf 21 = .ok (.iaload, 1) := by decide +kernel
theorem dX9_ringOf_22 : decode cX9_ringOf 22 = .ok (.iadd, 1) := by decide +kernel
theorem dX9_ringOf_23 : decode cX9_ringOf 23 = .ok (.iaload, 1) := by decide +kernel
theorem dX9_ringOf_24 : decode cX9_ringOf 24 = .ok (.istore_n 2, 1) := by decide +kernel
theorem dX9_ringOf_25 : decode cX9_ringOf 25 = .ok (.iload_n 2, 1) := by decide +kernel
theorem dX9_ringOf_26 : decode cX9_ringOf 26 = .ok (.iload_n 1, 1) := by decide +kernel
theorem dX9_ringOf_27 : decode cX9_ringOf 27 = .ok (.if_icmp .ne 5, 3) := by decide +kernel
theorem dX9_ringOf_30 : decode cX9_ringOf 30 = .ok (.iload_n 3, 1) := by decide +kernel
theorem dX9_ringOf_31 : decode cX9_ringOf 31 = .ok (.ireturn, 1) := by decide +kernel
theorem dX9_ringOf_32 : decode cX9_ringOf 32 = .ok (.iinc 3 1, 3) := by decide +kernel
theorem dX9_ringOf_35 : decode cX9_ringOf 35 = .ok (.goto (-31), 3) := by decide +kernel
theorem dX9_ringOf_38 : decode cX9_ringOf 38 = .ok (.iconst 0, 1) := by decide +kernel
theorem dX9_ringOf_39 : decode cX9_ringOf 39 = .ok (.ireturn, 1) := by decide +kernel
theorem dX9_trades_0 : decode cX9_trades 0 = .ok (.iconst 0, 1) := by decide +kernel
theorem dX9_trades_1 : decode cX9_trades 1 = .ok (.istore_n 1, 1) := by decide +kernel
theorem dX9_trades_2 : decode cX9_trades 2 = .ok (.iload_n 1, 1) := by decide +kernel
theorem dX9_trades_3 : decode cX9_trades 3 = .ok (.bipush 8, 2) := by decide +kernel
theorem dX9_trades_5 : decode cX9_trades 5 = .ok (.if_icmp .ge 23, 3) := by decide +kernel
theorem dX9_trades_8 : decode cX9_trades 8 = .ok (.aload_n 0, 1) := by decide +kernel
theorem dX9_trades_9 : decode cX9_trades 9 = .ok (.getfield 87, 3) := by decide +kernel
theorem dX9_trades_12 : decode cX9_trades 12 = .ok (.iload_n 1, 1) := by decide +kernel
theorem dX9_trades_13 : decode cX9_trades 13 = .ok (.iconst (-1), 1) := by decide +kernel
theorem dX9_trades_14 : decode cX9_trades 14 = .ok (.iastore, 1) := by decide +kernel
theorem dX9_trades_15 : decode cX9_trades 15 = .ok (.aload_n 0, 1) := by decide +kernel
theorem dX9_trades_16 : decode cX9_trades 16 = .ok (.getfield 90, 3) := by decide +kernel
theorem dX9_trades_19 : decode cX9_trades 19 = .ok (.iload_n 1, 1) := by decide +kernel
theorem dX9_trades_20 : decode cX9_trades 20 = .ok (.iconst 0, 1) := by decide +kernel
theorem dX9_trades_21 : decode cX9_trades 21 = .ok (.iastore, 1) := by decide +kernel
theorem dX9_trades_22 : decode cX9_trades 22 = .ok (.iinc 1 1, 3) := by decide +kernel
theorem dX9_trades_25 : decode cX9_trades 25 = .ok (.goto (-23), 3) := by decide +kernel
theorem dX9_trades_28 : decode cX9_trades 28 = .ok (.aload_n 0, 1) := by decide +kernel
theorem dX9_trades_29 : decode cX9_trades 29 = .ok (.invokevirtual 349, 3) := by decide +kernel
theorem dX9_trades_32 : decode cX9_trades 32 = .ok (.istore_n 1, 1) := by decide +kernel
theorem dX9_trades_33 : decode cX9_trades 33 = .ok (.iload_n 1, 1) := by decide +kernel
theorem dX9_trades_34 : decode cX9_trades 34 = .ok (.ifCond .eq 122, 3) := by decide +kernel
theorem dX9_trades_37 : decode cX9_trades 37 = .ok (.iconst 0, 1) := by decide +kernel
theorem dX9_trades_38 : decode cX9_trades 38 = .ok (.istore_n 2, 1) := by decide +kernel
theorem dX9_trades_39 : decode cX9_trades 39 = .ok (.iconst 0, 1) := by decide +kernel
theorem dX9_trades_40 : decode cX9_trades 40 = .ok (.istore_n 3, 1) := by decide +kernel
theorem dX9_trades_41 : decode cX9_trades 41 = .ok (.iload_n 3, 1) := by decide +kernel
theorem dX9_trades_42 : decode cX9_trades 42 = .ok (.aload_n 0, 1) := by decide +kernel
theorem dX9_trades_43 : decode cX9_trades 43 = .ok (.getfield 278, 3) := by decide +kernel
theorem dX9_trades_46 : decode cX9_trades 46 = .ok (.if_icmp .ge 21, 3) := by decide +kernel
theorem dX9_trades_49 : decode cX9_trades 49 = .ok (.aload_n 0, 1) := by decide +kernel
theorem dX9_trades_50 : decode cX9_trades 50 = .ok (.getfield 84, 3) := by decide +kernel
theorem dX9_trades_53 : decode cX9_trades 53 = .ok (.iload_n 3, 1) := by decide +kernel
theorem dX9_trades_54 : decode cX9_trades 54 = .ok (.aload_n 0, 1) := by decide +kernel
theorem dX9_trades_55 : decode cX9_trades 55 = .ok (.iload_n 3, 1) := by decide +kernel
theorem dX9_trades_56 : decode cX9_trades 56 = .ok (.iload_n 1, 1) := by decide +kernel
theorem dX9_trades_57 : decode cX9_trades 57 = .ok (.invokevirtual 415, 3) := by decide +kernel
theorem dX9_trades_60 : decode cX9_trades 60 = .ok (.iastore, 1) := by decide +kernel
theorem dX9_trades_61 : decode cX9_trades 61 = .ok (.iinc 3 1, 3) := by decide +kernel
theorem dX9_trades_64 : decode cX9_trades 64 = .ok (.goto (-23), 3) := by decide +kernel
theorem dX9_trades_67 : decode cX9_trades 67 = .ok (.iconst 0, 1) := by decide +kernel
theorem dX9_trades_68 : decode cX9_trades 68 = .ok (.istore_n 3, 1) := by decide +kernel
theorem dX9_trades_69 : decode cX9_trades 69 = .ok (.iload_n 3, 1) := by decide +kernel
theorem dX9_trades_70 : decode cX9_trades 70 = .ok (.aload_n 0, 1) := by decide +kernel
theorem dX9_trades_71 : decode cX9_trades 71 = .ok (.getfield 275, 3) := by decide +kernel
theorem dX9_trades_74 : decode cX9_trades 74 = .ok (.if_icmp .ge 73, 3) := by decide +kernel
theorem dX9_trades_77 : decode cX9_trades 77 = .ok (.aload_n 0, 1) := by decide +kernel
theorem dX9_trades_78 : decode cX9_trades 78 = .ok (.getfield 66, 3) := by decide +kernel
theorem dX9_trades_81 : decode cX9_trades 81 = .ok (.bipush 19, 2) := by decide +kernel
theorem dX9_trades_83 : decode cX9_trades 83 = .ok (.iload_n 3, 1) := by decide +kernel
theorem dX9_trades_84 : decode cX9_trades 84 = .ok (.iadd, 1) := by decide +kernel
theorem dX9_trades_85 : decode cX9_trades 85 = .ok (.iaload, 1) := by decide +kernel
theorem dX9_trades_86 : decode cX9_trades 86 = .ok (.istore 4, 2) := by decide +kernel
theorem dX9_trades_88 : decode cX9_trades 88 = .ok (.iload_n 1, 1) := by decide +kernel
theorem dX9_trades_89 : decode cX9_trades 89 = .ok (.iload_n 3, 1) := by decide +kernel
theorem dX9_trades_90 : decode cX9_trades 90 = .ok (.ishr, 1) := by decide +kernel
theorem dX9_trades_91 : decode cX9_trades 91 = .ok (.iconst 1, 1) := by decide +kernel
theorem dX9_trades_92 : decode cX9_trades 92 = .ok (.iand, 1) := by decide +kernel
theorem dX9_trades_93 : decode cX9_trades 93 = .ok (.ifCond .eq 48, 3) := by decide +kernel
theorem dX9_trades_96 : decode cX9_trades 96 = .ok (.aload_n 0, 1) := by decide +kernel
theorem dX9_trades_97 : decode cX9_trades 97 = .ok (.iload 4, 2) := by decide +kernel
theorem dX9_trades_99 : decode cX9_trades 99 = .ok (.invokevirtual 418, 3) := by decide +kernel
theorem dX9_trades_102 : decode cX9_trades 102 = .ok (.ifCond .ne 6, 3) := by decide +kernel
theorem dX9_trades_105 : decode cX9_trades 105 = .ok (.goto 36, 3) := by decide +kernel
theorem dX9_trades_108 : decode cX9_trades 108 = .ok (.aload_n 0, 1) := by decide +kernel
theorem dX9_trades_109 : decode cX9_trades 109 = .ok (.getfield 87, 3) := by decide +kernel
theorem dX9_trades_112 : decode cX9_trades 112 = .ok (.iload 4, 2) := by decide +kernel
theorem dX9_trades_114 : decode cX9_trades 114 = .ok (.aload_n 0, 1) := by decide +kernel
theorem dX9_trades_115 : decode cX9_trades 115 = .ok (.getfield 84, 3) := by decide +kernel
theorem dX9_trades_118 : decode cX9_trades 118 = .ok (.iload 4, 2) := by decide +kernel
theorem dX9_trades_120 : decode cX9_trades 120 = .ok (.iaload, 1) := by decide +kernel
theorem dX9_trades_121 : decode cX9_trades 121 = .ok (.iastore, 1) := by decide +kernel
theorem dX9_trades_122 : decode cX9_trades 122 = .ok (.aload_n 0, 1) := by decide +kernel
theorem dX9_trades_123 : decode cX9_trades 123 = .ok (.getfield 90, 3) := by decide +kernel
theorem dX9_trades_126 : decode cX9_trades 126 = .ok (.iload 4, 2) := by decide +kernel
theorem dX9_trades_128 : decode cX9_trades 128 = .ok (.aload_n 0, 1) := by decide +kernel
theorem dX9_trades_129 : decode cX9_trades 129 = .ok (.iload 4, 2) := by decide +kernel
theorem dX9_trades_131 : decode cX9_trades 131 = .ok (.invokevirtual 418, 3) := by decide +kernel
theorem dX9_trades_134 : decode cX9_trades 134 = .ok (.iastore, 1) := by decide +kernel
theorem dX9_trades_135 : decode cX9_trades 135 = .ok (.iload_n 2, 1) := by decide +kernel
theorem dX9_trades_136 : decode cX9_trades 136 = .ok (.iconst 1, 1) := by decide +kernel
theorem dX9_trades_137 : decode cX9_trades 137 = .ok (.iload_n 3, 1) := by decide +kernel
theorem dX9_trades_138 : decode cX9_trades 138 = .ok (.ishl, 1) := by decide +kernel
theorem dX9_trades_139 : decode cX9_trades 139 = .ok (.ior, 1) := by decide +kernel
theorem dX9_trades_140 : decode cX9_trades 140 = .ok (.istore_n 2, 1) := by decide +kernel
theorem dX9_trades_141 : decode cX9_trades 141 = .ok (.iinc 3 1, 3) := by decide +kernel
theorem dX9_trades_144 : decode cX9_trades 144 = .ok (.goto (-75), 3) := by decide +kernel
theorem dX9_trades_147 : decode cX9_trades 147 = .ok (.iload_n 1, 1) := by decide +kernel
theorem dX9_trades_148 : decode cX9_trades 148 = .ok (.iload_n 2, 1) := by decide +kernel
theorem dX9_trades_149 : decode cX9_trades 149 = .ok (.iconst (-1), 1) := by decide +kernel
theorem dX9_trades_150 : decode cX9_trades 150 = .ok (.ixor, 1) := by decide +kernel
theorem dX9_trades_151 : decode cX9_trades 151 = .ok (.iand, 1) := by decide +kernel
theorem dX9_trades_152 : decode cX9_trades 152 = .ok (.istore_n 1, 1) := by decide +kernel
theorem dX9_trades_153 : decode cX9_trades 153 = .ok (.goto (-120), 3) := by decide +kernel
theorem dX9_trades_156 : decode cX9_trades 156 = .ok (.return_, 1) := by decide +kernel
theorem dX9_trade_0 : decode cX9_trade 0 = .ok (.aload_n 0, 1) := by decide +kernel
theorem dX9_trade_1 : decode cX9_trade 1 = .ok (.iconst 0, 1) := by decide +kernel
theorem dX9_trade_2 : decode cX9_trade 2 = .ok (.putfield 111, 3) := by decide +kernel
theorem dX9_trade_5 : decode cX9_trade 5 = .ok (.aload_n 0, 1) := by decide +kernel
theorem dX9_trade_6 : decode cX9_trade 6 = .ok (.iload_n 1, 1) := by decide +kernel
theorem dX9_trade_7 : decode cX9_trade 7 = .ok (.invokevirtual 379, 3) := by decide +kernel
theorem dX9_trade_10 : decode cX9_trade 10 = .ok (.ifCond .ne 5, 3) := by decide +kernel
theorem dX9_trade_13 : decode cX9_trade 13 = .ok (.iconst 0, 1) := by decide +kernel
theorem dX9_trade_14 : decode cX9_trade 14 = .ok (.ireturn, 1) := by decide +kernel
theorem dX9_trade_15 : decode cX9_trade 15 = .ok (.aload_n 0, 1) := by decide +kernel
theorem dX9_trade_16 : decode cX9_trade 16 = .ok (.invokevirtual 421, 3) := by decide +kernel
theorem dX9_trade_19 : decode cX9_trade 19 = .ok (.aload_n 0, 1) := by decide +kernel
theorem dX9_trade_20 : decode cX9_trade 20 = .ok (.getfield 87, 3) := by decide +kernel
theorem dX9_trade_23 : decode cX9_trade 23 = .ok (.iload_n 1, 1) := by decide +kernel
theorem dX9_trade_24 : decode cX9_trade 24 = .ok (.iaload, 1) := by decide +kernel
theorem dX9_trade_25 : decode cX9_trade 25 = .ok (.ireturn, 1) := by decide +kernel
theorem dX9_ringed_0 : decode cX9_ringed 0 = .ok (.aload_n 0, 1) := by decide +kernel
theorem dX9_ringed_1 : decode cX9_ringed 1 = .ok (.iconst 0, 1) := by decide +kernel
theorem dX9_ringed_2 : decode cX9_ringed 2 = .ok (.putfield 111, 3) := by decide +kernel
theorem dX9_ringed_5 : decode cX9_ringed 5 = .ok (.aload_n 0, 1) := by decide +kernel
theorem dX9_ringed_6 : decode cX9_ringed 6 = .ok (.iload_n 1, 1) := by decide +kernel
theorem dX9_ringed_7 : decode cX9_ringed 7 = .ok (.invokevirtual 379, 3) := by decide +kernel
theorem dX9_ringed_10 : decode cX9_ringed 10 = .ok (.ifCond .ne 5, 3) := by decide +kernel
theorem dX9_ringed_13 : decode cX9_ringed 13 = .ok (.iconst 0, 1) := by decide +kernel
theorem dX9_ringed_14 : decode cX9_ringed 14 = .ok (.ireturn, 1) := by decide +kernel
theorem dX9_ringed_15 : decode cX9_ringed 15 = .ok (.aload_n 0, 1) := by decide +kernel
theorem dX9_ringed_16 : decode cX9_ringed 16 = .ok (.invokevirtual 421, 3) := by decide +kernel
theorem dX9_ringed_19 : decode cX9_ringed 19 = .ok (.aload_n 0, 1) := by decide +kernel
theorem dX9_ringed_20 : decode cX9_ringed 20 = .ok (.getfield 90, 3) := by decide +kernel
theorem dX9_ringed_23 : decode cX9_ringed 23 = .ok (.iload_n 1, 1) := by decide +kernel
theorem dX9_ringed_24 : decode cX9_ringed 24 = .ok (.iaload, 1) := by decide +kernel
theorem dX9_ringed_25 : decode cX9_ringed 25 = .ok (.ireturn, 1) := by decide +kernel
theorem dX9_toStuff_0 : decode cX9_toStuff 0 = .ok (.aload_n 0, 1) := by decide +kernel
theorem dX9_toStuff_1 : decode cX9_toStuff 1 = .ok (.iconst 0, 1) := by decide +kernel
theorem dX9_toStuff_2 : decode cX9_toStuff 2 = .ok (.putfield 111, 3) := by decide +kernel
theorem dX9_toStuff_5 : decode cX9_toStuff 5 = .ok (.aload_n 0, 1) := by decide +kernel
theorem dX9_toStuff_6 : decode cX9_toStuff 6 = .ok (.iload_n 1, 1) := by decide +kernel
theorem dX9_toStuff_7 : decode cX9_toStuff 7 = .ok (.invokevirtual 379, 3) := by decide +kernel
theorem dX9_toStuff_10 : decode cX9_toStuff 10 = .ok (.ifCond .eq 11, 3) := by decide +kernel
theorem dX9_toStuff_13 : decode cX9_toStuff 13 = .ok (.aload_n 0, 1) := by decide +kernel
theorem dX9_toStuff_14 : decode cX9_toStuff 14 = .ok (.iload_n 2, 1) := by decide +kernel
theorem dX9_toStuff_15 : decode cX9_toStuff 15 = .ok (.invokevirtual 367, 3) := by decide +kernel
theorem dX9_toStuff_18 : decode cX9_toStuff 18 = .ok (.ifCond .ne 5, 3) := by decide +kernel
theorem dX9_toStuff_21 : decode cX9_toStuff 21 = .ok (.iconst 0, 1) := by decide +kernel
theorem dX9_toStuff_22 : decode cX9_toStuff 22 = .ok (.ireturn, 1) := by decide +kernel
theorem dX9_toStuff_23 : decode cX9_toStuff 23 = .ok (.aload_n 0, 1) := by decide +kernel
theorem dX9_toStuff_24 : decode cX9_toStuff 24 = .ok (.getfield 66, 3) := by decide +kernel
theorem dX9_toStuff_27 : decode cX9_toStuff 27 = .ok (.iconst 3, 1) := by decide +kernel
theorem dX9_toStuff_28 : decode cX9_toStuff 28 = .ok (.iload_n 2, 1) := by decide +kernel
theorem dX9_toStuff_29 : decode cX9_toStuff 29 = .ok (.iadd, 1) := by decide +kernel
theorem dX9_toStuff_30 : decode cX9_toStuff 30 = .ok (.iaload, 1) := by decide +kernel
theorem dX9_toStuff_31 : decode cX9_toStuff 31 = .ok (.aload_n 0, 1) := by decide +kernel
theorem dX9_toStuff_32 : decode cX9_toStuff 32 = .ok (.getfield 66, 3) := by decide +kernel
theorem dX9_toStuff_35 : decode cX9_toStuff 35 = .ok (.bipush 27, 2) := by decide +kernel
theorem dX9_toStuff_37 : decode cX9_toStuff 37 = .ok (.iload_n 1, 1) := by decide +kernel
theorem dX9_toStuff_38 : decode cX9_toStuff 38 = .ok (.iadd, 1) := by decide +kernel
theorem dX9_toStuff_39 : decode cX9_toStuff 39 = .ok (.iaload, 1) := by decide +kernel
theorem dX9_toStuff_40 : decode cX9_toStuff 40 = .ok (.isub, 1) := by decide +kernel
theorem dX9_toStuff_41 : decode cX9_toStuff 41 = .ok (.iconst 0, 1) := by decide +kernel
theorem dX9_toStuff_42 : decode cX9_toStuff 42 = .ok (.ldc_w 305, 3) := by decide +kernel
theorem dX9_toStuff_45 : decode cX9_toStuff 45 = .ok (.invokestatic 306, 3) := by decide +kernel
theorem dX9_toStuff_48 : decode cX9_toStuff 48 = .ok (.istore_n 3, 1) := by decide +kernel
theorem dX9_toStuff_49 : decode cX9_toStuff 49 = .ok (.iload_n 3, 1) := by decide +kernel
theorem dX9_toStuff_50 : decode cX9_toStuff 50 = .ok (.bipush 20, 2) := by decide +kernel
theorem dX9_toStuff_52 : decode cX9_toStuff 52 = .ok (.if_icmp .le 7, 3) := by decide +kernel
theorem dX9_toStuff_55 : decode cX9_toStuff 55 = .ok (.iconst (-1), 1) := by decide +kernel
theorem dX9_toStuff_56 : decode cX9_toStuff 56 = .ok (.goto 4, 3) := by decide +kernel
theorem dX9_toStuff_59 : decode cX9_toStuff 59 = .ok (.iload_n 3, 1) := by decide +kernel
theorem dX9_toStuff_60 : decode cX9_toStuff 60 = .ok (.ireturn, 1) := by decide +kernel
theorem dX9_toWait_0 : decode cX9_toWait 0 = .ok (.aload_n 0, 1) := by decide +kernel
theorem dX9_toWait_1 : decode cX9_toWait 1 = .ok (.iconst 0, 1) := by decide +kernel
theorem dX9_toWait_2 : decode cX9_toWait 2 = .ok (.putfield 111, 3) := by decide +kernel
theorem dX9_toWait_5 : decode cX9_toWait 5 = .ok (.aload_n 0, 1) := by decide +kernel
theorem dX9_toWait_6 : decode cX9_toWait 6 = .ok (.iload_n 1, 1) := by decide +kernel
theorem dX9_toWait_7 : decode cX9_toWait 7 = .ok (.invokevirtual 379, 3) := by decide +kernel
theorem dX9_toWait_10 : decode cX9_toWait 10 = .ok (.ifCond .eq 11, 3) := by decide +kernel
theorem dX9_toWait_13 : decode cX9_toWait 13 = .ok (.aload_n 0, 1) := by decide +kernel
theorem dX9_toWait_14 : decode cX9_toWait 14 = .ok (.iload_n 2, 1) := by decide +kernel
theorem dX9_toWait_15 : decode cX9_toWait 15 = .ok (.invokevirtual 367, 3) := by decide +kernel
theorem dX9_toWait_18 : decode cX9_toWait 18 = .ok (.ifCond .ne 5, 3) := by decide +kernel
theorem dX9_toWait_21 : decode cX9_toWait 21 = .ok (.iconst 0, 1) := by decide +kernel
theorem dX9_toWait_22 : decode cX9_toWait 22 = .ok (.ireturn, 1) := by decide +kernel
theorem dX9_toWait_23 : decode cX9_toWait 23 = .ok (.aload_n 0, 1) := by decide +kernel
theorem dX9_toWait_24 : decode cX9_toWait 24 = .ok (.invokevirtual 391, 3) := by decide +kernel
theorem dX9_toWait_27 : decode cX9_toWait 27 = .ok (.iconst 0, 1) := by decide +kernel
theorem dX9_toWait_28 : decode cX9_toWait 28 = .ok (.istore_n 3, 1) := by decide +kernel
theorem dX9_toWait_29 : decode cX9_toWait 29 = .ok (.iload_n 3, 1) := by decide +kernel
theorem dX9_toWait_30 : decode cX9_toWait 30 = .ok (.bipush 40, 2) := by decide +kernel
theorem dX9_toWait_32 : decode cX9_toWait 32 = .ok (.if_icmp .gt 28, 3) := by decide +kernel
theorem dX9_toWait_35 : decode cX9_toWait 35 = .ok (.aload_n 0, 1) := by decide +kernel
theorem dX9_toWait_36 : decode cX9_toWait 36 = .ok (.bipush 43, 2) := by decide +kernel
theorem dX9_toWait_38 : decode cX9_toWait 38 = .ok (.iload_n 1, 1) := by decide +kernel
theorem dX9_toWait_39 : decode cX9_toWait 39 = .ok (.iload_n 2, 1) := by decide +kernel
theorem dX9_toWait_40 : decode cX9_toWait 40 = .ok (.invokevirtual 388, 3) := by decide +kernel
theorem dX9_toWait_43 : decode cX9_toWait 43 = .ok (.ifCond .eq 5, 3) := by decide +kernel
theorem dX9_toWait_46 : decode cX9_toWait 46 = .ok (.iload_n 3, 1) := by decide +kernel
theorem dX9_toWait_47 : decode cX9_toWait 47 = .ok (.ireturn, 1) := by decide +kernel
theorem dX9_toWait_48 : decode cX9_toWait 48 = .ok (.aload_n 0, 1) := by decide +kernel
theorem dX9_toWait_49 : decode cX9_toWait 49 = .ok (.bipush 43, 2) := by decide +kernel
theorem dX9_toWait_51 : decode cX9_toWait 51 = .ok (.invokevirtual 336, 3) := by decide +kernel
theorem dX9_toWait_54 : decode cX9_toWait 54 = .ok (.iinc 3 1, 3) := by decide +kernel
theorem dX9_toWait_57 : decode cX9_toWait 57 = .ok (.goto (-28), 3) := by decide +kernel
theorem dX9_toWait_60 : decode cX9_toWait 60 = .ok (.iconst (-1), 1) := by decide +kernel
theorem dX9_toWait_61 : decode cX9_toWait 61 = .ok (.ireturn, 1) := by decide +kernel
theorem dX9_round_0 : decode cX9_round 0 = .ok (.aload_n 0, 1) := by decide +kernel
theorem dX9_round_1 : decode cX9_round 1 = .ok (.iconst 0, 1) := by decide +kernel
theorem dX9_round_2 : decode cX9_round 2 = .ok (.putfield 111, 3) := by decide +kernel
theorem dX9_round_5 : decode cX9_round 5 = .ok (.aload_n 0, 1) := by decide +kernel
theorem dX9_round_6 : decode cX9_round 6 = .ok (.iload_n 1, 1) := by decide +kernel
theorem dX9_round_7 : decode cX9_round 7 = .ok (.iconst 0, 1) := by decide +kernel
theorem dX9_round_8 : decode cX9_round 8 = .ok (.bipush 30, 2) := by decide +kernel
theorem dX9_round_10 : decode cX9_round 10 = .ok (.invokestatic 345, 3) := by decide +kernel
theorem dX9_round_13 : decode cX9_round 13 = .ok (.iconst 1, 1) := by decide +kernel
theorem dX9_round_14 : decode cX9_round 14 = .ok (.invokevirtual 268, 3) := by decide +kernel
theorem dX9_round_17 : decode cX9_round 17 = .ok (.ifCond .ne 5, 3) := by decide +kernel
theorem dX9_round_20 : decode cX9_round 20 = .ok (.iconst 0, 1) := by decide +kernel
theorem dX9_round_21 : decode cX9_round 21 = .ok (.ireturn, 1) := by decide +kernel
theorem dX9_round_22 : decode cX9_round 22 = .ok (.ldc_w 305, 3) := by decide +kernel
theorem dX9_round_25 : decode cX9_round 25 = .ok (.istore_n 2, 1) := by decide +kernel
theorem dX9_round_26 : decode cX9_round 26 = .ok (.iconst (-1), 1) := by decide +kernel
theorem dX9_round_27 : decode cX9_round 27 = .ok (.istore_n 3, 1) := by decide +kernel
theorem dX9_round_28 : decode cX9_round 28 = .ok (.iconst 0, 1) := by decide +kernel
theorem dX9_round_29 : decode cX9_round 29 = .ok (.istore 4, 2) := by decide +kernel
theorem dX9_round_31 : decode cX9_round 31 = .ok (.iload 4, 2) := by decide +kernel
theorem dX9_round_33 : decode cX9_round 33 = .ok (.aload_n 0, 1) := by decide +kernel
theorem dX9_round_34 : decode cX9_round 34 = .ok (.getfield 275, 3) := by decide +kernel
theorem dX9_round_37 : decode cX9_round 37 = .ok (.if_icmp .ge 77, 3) := by decide +kernel
theorem dX9_round_40 : decode cX9_round 40 = .ok (.aload_n 0, 1) := by decide +kernel
theorem dX9_round_41 : decode cX9_round 41 = .ok (.getfield 66, 3) := by decide +kernel
theorem dX9_round_44 : decode cX9_round 44 = .ok (.bipush 19, 2) := by decide +kernel
theorem dX9_round_46 : decode cX9_round 46 = .ok (.iload 4, 2) := by decide +kernel
theorem dX9_round_48 : decode cX9_round 48 = .ok (.iadd, 1) := by decide +kernel
theorem dX9_round_49 : decode cX9_round 49 = .ok (.iaload, 1) := by decide +kernel
theorem dX9_round_50 : decode cX9_round 50 = .ok (.istore 5, 2) := by decide +kernel
theorem dX9_round_52 : decode cX9_round 52 = .ok (.iload 5, 2) := by decide +kernel
theorem dX9_round_54 : decode cX9_round 54 = .ok (.iconst (-1), 1) := by decide +kernel
theorem dX9_round_55 : decode cX9_round 55 = .ok (.if_icmp .eq 53, 3) := by decide +kernel
theorem dX9_round_58 : decode cX9_round 58 = .ok (.aload_n 0, 1) := by decide +kernel
theorem dX9_round_59 : decode cX9_round 59 = .ok (.iconst 0, 1) := by decide +kernel
theorem dX9_round_60 : decode cX9_round 60 = .ok (.iload 5, 2) := by decide +kernel
theorem dX9_round_62 : decode cX9_round 62 = .ok (.iload 4, 2) := by decide +kernel
theorem dX9_round_64 : decode cX9_round 64 = .ok (.invokevirtual 312, 3) := by decide +kernel
theorem dX9_round_67 : decode cX9_round 67 = .ok (.ifCond .ne 6, 3) := by decide +kernel
theorem dX9_round_70 : decode cX9_round 70 = .ok (.goto 38, 3) := by decide +kernel
theorem dX9_round_73 : decode cX9_round 73 = .ok (.iload_n 2, 1) := by decide +kernel
theorem dX9_round_74 : decode cX9_round 74 = .ok (.aload_n 0, 1) := by decide +kernel
theorem dX9_round_75 : decode cX9_round 75 = .ok (.getfield 20, 3) := by decide +kernel
theorem dX9_round_78 : decode cX9_round 78 = .ok (.iload 4, 2) := by decide +kernel
theorem dX9_round_80 : decode cX9_round 80 = .ok (.iaload, 1) := by decide +kernel
theorem dX9_round_81 : decode cX9_round 81 = .ok (.invokestatic 329, 3) := by decide +kernel
theorem dX9_round_84 : decode cX9_round 84 = .ok (.istore_n 2, 1) := by decide +kernel
theorem dX9_round_85 : decode cX9_round 85 = .ok (.aload_n 0, 1) := by decide +kernel
theorem dX9_round_86 : decode cX9_round 86 = .ok (.getfield 20, 3) := by decide +kernel
theorem dX9_round_89 : decode cX9_round 89 = .ok (.iload 4, 2) := by decide +kernel
theorem dX9_round_91 : decode cX9_round 91 = .ok (.iaload, 1) := by decide +kernel
theorem dX9_round_92 : decode cX9_round 92 = .ok (.iload_n 3, 1) := by decide +kernel
theorem dX9_round_93 : decode cX9_round 93 = .ok (.if_icmp .le 13, 3) := by decide +kernel
theorem dX9_round_96 : decode cX9_round 96 = .ok (.aload_n 0, 1) := by decide +kernel
theorem dX9_round_97 : decode cX9_round 97 = .ok (.getfield 20, 3) := by decide +kernel
theorem dX9_round_100 : decode cX9_round 100 = .ok (.iload 4, 2) := by decide +kernel
theorem dX9_round_102 : decode cX9_round 102 = .ok (.iaload, 1) := by decide +kernel
theorem dX9_round_103 : decode cX9_round 103 = .ok (.goto 4, 3) := by decide +kernel
theorem dX9_round_106 : decode cX9_round 106 = .ok (.iload_n 3, 1) := by decide +kernel
theorem dX9_round_107 : decode cX9_round 107 = .ok (.istore_n 3, 1) := by decide +kernel
theorem dX9_round_108 : decode cX9_round 108 = .ok (.iinc 4 1, 3) := by decide +kernel
theorem dX9_round_111 : decode cX9_round 111 = .ok (.goto (-80), 3) := by decide +kernel
theorem dX9_round_114 : decode cX9_round 114 = .ok (.iload_n 3, 1) := by decide +kernel
theorem dX9_round_115 : decode cX9_round 115 = .ok (.iconst (-1), 1) := by decide +kernel
theorem dX9_round_116 : decode cX9_round 116 = .ok (.if_icmp .ne 7, 3) := by decide +kernel
theorem dX9_round_119 : decode cX9_round 119 = .ok (.iconst 0, 1) := by decide +kernel
theorem dX9_round_120 : decode cX9_round 120 = .ok (.goto 20, 3) := by decide +kernel
theorem dX9_round_123 : decode cX9_round 123 = .ok (.iload_n 3, 1) := by decide +kernel
theorem dX9_round_124 : decode cX9_round 124 = .ok (.iload_n 2, 1) := by decide +kernel
theorem dX9_round_125 : decode cX9_round 125 = .ok (.isub, 1) := by decide +kernel
theorem dX9_round_126 : decode cX9_round 126 = .ok (.iload_n 1, 1) := by decide +kernel
theorem dX9_round_127 : decode cX9_round 127 = .ok (.iload_n 2, 1) := by decide +kernel
theorem dX9_round_128 : decode cX9_round 128 = .ok (.invokestatic 364, 3) := by decide +kernel
theorem dX9_round_131 : decode cX9_round 131 = .ok (.iload_n 1, 1) := by decide +kernel
theorem dX9_round_132 : decode cX9_round 132 = .ok (.iload_n 3, 1) := by decide +kernel
theorem dX9_round_133 : decode cX9_round 133 = .ok (.invokestatic 364, 3) := by decide +kernel
theorem dX9_round_136 : decode cX9_round 136 = .ok (.invokestatic 329, 3) := by decide +kernel
theorem dX9_round_139 : decode cX9_round 139 = .ok (.iadd, 1) := by decide +kernel
theorem dX9_round_140 : decode cX9_round 140 = .ok (.ireturn, 1) := by decide +kernel
theorem dX9_see_0 : decode cX9_see 0 = .ok (.aload_n 0, 1) := by decide +kernel
theorem dX9_see_1 : decode cX9_see 1 = .ok (.iconst 0, 1) := by decide +kernel
theorem dX9_see_2 : decode cX9_see 2 = .ok (.putfield 111, 3) := by decide +kernel
theorem dX9_see_5 : decode cX9_see 5 = .ok (.aload_n 0, 1) := by decide +kernel
theorem dX9_see_6 : decode cX9_see 6 = .ok (.iload_n 1, 1) := by decide +kernel
theorem dX9_see_7 : decode cX9_see 7 = .ok (.invokevirtual 367, 3) := by decide +kernel
theorem dX9_see_10 : decode cX9_see 10 = .ok (.ifCond .ne 5, 3) := by decide +kernel
theorem dX9_see_13 : decode cX9_see 13 = .ok (.iconst 0, 1) := by decide +kernel
theorem dX9_see_14 : decode cX9_see 14 = .ok (.ireturn, 1) := by decide +kernel
theorem dX9_see_15 : decode cX9_see 15 = .ok (.aload_n 0, 1) := by decide +kernel
theorem dX9_see_16 : decode cX9_see 16 = .ok (.getfield 291, 3) := by decide +kernel
theorem dX9_see_19 : decode cX9_see 19 = .ok (.bipush 8, 2) := by decide +kernel
theorem dX9_see_21 : decode cX9_see 21 = .ok (.if_icmp .eq 23, 3) := by decide +kernel
theorem dX9_see_24 : decode cX9_see 24 = .ok (.iload_n 2, 1) := by decide +kernel
theorem dX9_see_25 : decode cX9_see 25 = .ok (.iconst 0, 1) := by decide +kernel
theorem dX9_see_26 : decode cX9_see 26 = .ok (.bipush 20, 2) := by decide +kernel
theorem dX9_see_28 : decode cX9_see 28 = .ok (.invokestatic 345, 3) := by decide +kernel
theorem dX9_see_31 : decode cX9_see 31 = .ok (.ifCond .eq 13, 3) := by decide +kernel
theorem dX9_see_34 : decode cX9_see 34 = .ok (.iload_n 3, 1) := by decide +kernel
theorem dX9_see_35 : decode cX9_see 35 = .ok (.iconst 0, 1) := by decide +kernel
theorem dX9_see_36 : decode cX9_see 36 = .ok (.bipush 99, 2) := by decide +kernel
theorem dX9_see_38 : decode cX9_see 38 = .ok (.invokestatic 345, 3) := by decide +kernel
theorem dX9_see_41 : decode cX9_see 41 = .ok (.ifCond .ne 9, 3) := by decide +kernel
theorem dX9_see_44 : decode cX9_see 44 = .ok (.aload_n 0, 1) := by decide +kernel
theorem dX9_see_45 : decode cX9_see 45 = .ok (.iconst 2, 1) := by decide +kernel
theorem dX9_see_46 : decode cX9_see 46 = .ok (.invokevirtual 382, 3) := by decide +kernel
theorem dX9_see_49 : decode cX9_see 49 = .ok (.ireturn, 1) := by decide +kernel
theorem dX9_see_50 : decode cX9_see 50 = .ok (.aload_n 0, 1) := by decide +kernel
theorem dX9_see_51 : decode cX9_see 51 = .ok (.getfield 93, 3) := by decide +kernel
theorem dX9_see_54 : decode cX9_see 54 = .ok (.iconst 3, 1) := by decide +kernel
theorem dX9_see_55 : decode cX9_see 55 = .ok (.aload_n 0, 1) := by decide +kernel
theorem dX9_see_56 : decode cX9_see 56 = .ok (.getfield 291, 3) := by decide +kernel
theorem dX9_see_59 : decode cX9_see 59 = .ok (.imul, 1) := by decide +kernel
theorem dX9_see_60 : decode cX9_see 60 = .ok (.iload_n 1, 1) := by decide +kernel
theorem dX9_see_61 : decode cX9_see 61 = .ok (.iastore, 1) := by decide +kernel
theorem dX9_see_62 : decode cX9_see 62 = .ok (.aload_n 0, 1) := by decide +kernel
theorem dX9_see_63 : decode cX9_see 63 = .ok (.getfield 93, 3) := by decide +kernel
theorem dX9_see_66 : decode cX9_see 66 = .ok (.iconst 3, 1) := by decide +kernel
theorem dX9_see_67 : decode cX9_see 67 = .ok (.aload_n 0, 1) := by decide +kernel
theorem dX9_see_68 : decode cX9_see 68 = .ok (.getfield 291, 3) := by decide +kernel
theorem dX9_see_71 : decode cX9_see 71 = .ok (.imul, 1) := by decide +kernel
theorem dX9_see_72 : decode cX9_see 72 = .ok (.iconst 1, 1) := by decide +kernel
theorem dX9_see_73 : decode cX9_see 73 = .ok (.iadd, 1) := by decide +kernel
theorem dX9_see_74 : decode cX9_see 74 = .ok (.iload_n 2, 1) := by decide +kernel
theorem dX9_see_75 : decode cX9_see 75 = .ok (.iastore, 1) := by decide +kernel
theorem dX9_see_76 : decode cX9_see 76 = .ok (.aload_n 0, 1) := by decide +kernel
theorem dX9_see_77 : decode cX9_see 77 = .ok (.getfield 93, 3) := by decide +kernel
theorem dX9_see_80 : decode cX9_see 80 = .ok (.iconst 3, 1) := by decide +kernel
theorem dX9_see_81 : decode cX9_see 81 = .ok (.aload_n 0, 1) := by decide +kernel
theorem dX9_see_82 : decode cX9_see 82 = .ok (.getfield 291, 3) := by decide +kernel
theorem dX9_see_85 : decode cX9_see 85 = .ok (.imul, 1) := by decide +kernel
theorem dX9_see_86 : decode cX9_see 86 = .ok (.iconst 2, 1) := by decide +kernel
theorem dX9_see_87 : decode cX9_see 87 = .ok (.iadd, 1) := by decide +kernel
theorem dX9_see_88 : decode cX9_see 88 = .ok (.iload_n 3, 1) := by decide +kernel
theorem dX9_see_89 : decode cX9_see 89 = .ok (.iastore, 1) := by decide +kernel
theorem dX9_see_90 : decode cX9_see 90 = .ok (.aload_n 0, 1) := by decide +kernel
theorem dX9_see_91 : decode cX9_see 91 = .ok (.dup, 1) := by decide +kernel
theorem dX9_see_92 : decode cX9_see 92 = .ok (.getfield 291, 3) := by decide +kernel
theorem dX9_see_95 : decode cX9_see 95 = .ok (.iconst 1, 1) := by decide +kernel
theorem dX9_see_96 : decode cX9_see 96 = .ok (.iadd, 1) := by decide +kernel
theorem dX9_see_97 : decode cX9_see 97 = .ok (.putfield 291, 3) := by decide +kernel
theorem dX9_see_100 : decode cX9_see 100 = .ok (.aload_n 0, 1) := by decide +kernel
theorem dX9_see_101 : decode cX9_see 101 = .ok (.getfield 291, 3) := by decide +kernel
theorem dX9_see_104 : decode cX9_see 104 = .ok (.ireturn, 1) := by decide +kernel
theorem dX9_forget_0 : decode cX9_forget 0 = .ok (.aload_n 0, 1) := by decide +kernel
theorem dX9_forget_1 : decode cX9_forget 1 = .ok (.iconst 0, 1) := by decide +kernel
theorem dX9_forget_2 : decode cX9_forget 2 = .ok (.putfield 111, 3) := by decide +kernel
theorem dX9_forget_5 : decode cX9_forget 5 = .ok (.aload_n 0, 1) := by decide +kernel
theorem dX9_forget_6 : decode cX9_forget 6 = .ok (.iconst 0, 1) := by decide +kernel
theorem dX9_forget_7 : decode cX9_forget 7 = .ok (.putfield 291, 3) := by decide +kernel
theorem dX9_forget_10 : decode cX9_forget 10 = .ok (.return_, 1) := by decide +kernel
theorem dX9_isSeen_0 : decode cX9_isSeen 0 = .ok (.iconst 0, 1) := by decide +kernel
theorem dX9_isSeen_1 : decode cX9_isSeen 1 = .ok (.istore_n 1, 1) := by decide +kernel
theorem dX9_isSeen_2 : decode cX9_isSeen 2 = .ok (.iload_n 1, 1) := by decide +kernel
theorem dX9_isSeen_3 : decode cX9_isSeen 3 = .ok (.bipush 20, 2) := by decide +kernel
theorem dX9_isSeen_5 : decode cX9_isSeen 5 = .ok (.if_icmp .gt 112, 3) := by decide +kernel
theorem dX9_isSeen_8 : decode cX9_isSeen 8 = .ok (.iconst 0, 1) := by decide +kernel
theorem dX9_isSeen_9 : decode cX9_isSeen 9 = .ok (.istore_n 2, 1) := by decide +kernel
theorem dX9_isSeen_10 : decode cX9_isSeen 10 = .ok (.iload_n 2, 1) := by decide +kernel
theorem dX9_isSeen_11 : decode cX9_isSeen 11 = .ok (.aload_n 0, 1) := by decide +kernel
theorem dX9_isSeen_12 : decode cX9_isSeen 12 = .ok (.getfield 291, 3) := by decide +kernel
theorem dX9_isSeen_15 : decode cX9_isSeen 15 = .ok (.if_icmp .ge 54, 3) := by decide +kernel
theorem dX9_isSeen_18 : decode cX9_isSeen 18 = .ok (.aload_n 0, 1) := by decide +kernel
theorem dX9_isSeen_19 : decode cX9_isSeen 19 = .ok (.getfield 93, 3) := by decide +kernel
theorem dX9_isSeen_22 : decode cX9_isSeen 22 = .ok (.iconst 3, 1) := by decide +kernel
theorem dX9_isSeen_23 : decode cX9_isSeen 23 = .ok (.iload_n 2, 1) := by decide +kernel
theorem dX9_isSeen_24 : decode cX9_isSeen 24 = .ok (.imul, 1) := by decide +kernel
theorem dX9_isSeen_25 : decode cX9_isSeen 25 = .ok (.iconst 1, 1) := by decide +kernel
theorem dX9_isSeen_26 : decode cX9_isSeen 26 = .ok (.iadd, 1) := by decide +kernel
theorem dX9_isSeen_27 : decode cX9_isSeen 27 = .ok (.iaload, 1) := by decide +kernel
theorem dX9_isSeen_28 : decode cX9_isSeen 28 = .ok (.iload_n 1, 1) := by decide +kernel
theorem dX9_isSeen_29 : decode cX9_isSeen 29 = .ok (.if_icmp .ne 34, 3) := by decide +kernel
theorem dX9_isSeen_32 : decode cX9_isSeen 32 = .ok (.aload_n 0, 1) := by decide +kernel
theorem dX9_isSeen_33 : decode cX9_isSeen 33 = .ok (.getfield 66, 3) := by decide +kernel
theorem dX9_isSeen_36 : decode cX9_isSeen 36 = .ok (.bipush 54, 2) := by decide +kernel
theorem dX9_isSeen_38 : decode cX9_isSeen 38 = .ok (.aload_n 0, 1) := by decide +kernel
theorem dX9_isSeen_39 : decode cX9_isSeen 39 = .ok (.getfield 93, 3) := by decide +kernel
theorem dX9_isSeen_42 : decode cX9_isSeen 42 = .ok (.iconst 3, 1) := by decide +kernel
theorem dX9_isSeen_43 : decode cX9_isSeen 43 = .ok (.iload_n 2, 1) := by decide +kernel
theorem dX9_isSeen_44 : decode cX9_isSeen 44 = .ok (.imul, 1) := by decide +kernel
theorem dX9_isSeen_45 : decode cX9_isSeen 45 = .ok (.iaload, 1) := by decide +kernel
theorem dX9_isSeen_46 : decode cX9_isSeen 46 = .ok (.iadd, 1) := by decide +kernel
theorem dX9_isSeen_47 : decode cX9_isSeen 47 = .ok (.iaload, 1) := by decide +kernel
theorem dX9_isSeen_48 : decode cX9_isSeen 48 = .ok (.aload_n 0, 1) := by decide +kernel
theorem dX9_isSeen_49 : decode cX9_isSeen 49 = .ok (.getfield 93, 3) := by decide +kernel
theorem dX9_isSeen_52 : decode cX9_isSeen 52 = .ok (.iconst 3, 1) := by decide +kernel
theorem dX9_isSeen_53 : decode cX9_isSeen 53 = .ok (.iload_n 2, 1) := by decide +kernel
theorem dX9_isSeen_54 : decode cX9_isSeen 54 = .ok (.imul, 1) := by decide +kernel
theorem dX9_isSeen_55 : decode cX9_isSeen 55 = .ok (.iconst 2, 1) := by decide +kernel
theorem dX9_isSeen_56 : decode cX9_isSeen 56 = .ok (.iadd, 1) := by decide +kernel
theorem dX9_isSeen_57 : decode cX9_isSeen 57 = .ok (.iaload, 1) := by decide +kernel
theorem dX9_isSeen_58 : decode cX9_isSeen 58 = .ok (.if_icmp .eq 5, 3) := by decide +kernel
theorem dX9_isSeen_61 : decode cX9_isSeen 61 = .ok (.iconst 0, 1) := by decide +kernel
theorem dX9_isSeen_62 : decode cX9_isSeen 62 = .ok (.ireturn, 1) := by decide +kernel
theorem dX9_isSeen_63 : decode cX9_isSeen 63 = .ok (.iinc 2 1, 3) := by decide +kernel
theorem dX9_isSeen_66 : decode cX9_isSeen 66 = .ok (.goto (-56), 3) := by decide +kernel
theorem dX9_isSeen_69 : decode cX9_isSeen 69 = .ok (.iload_n 1, 1) := by decide +kernel
theorem dX9_isSeen_70 : decode cX9_isSeen 70 = .ok (.iconst 5, 1) := by decide +kernel
theorem dX9_isSeen_71 : decode cX9_isSeen 71 = .ok (.if_icmp .ne 34, 3) := by decide +kernel
theorem dX9_isSeen_74 : decode cX9_isSeen 74 = .ok (.iconst 0, 1) := by decide +kernel
theorem dX9_isSeen_75 : decode cX9_isSeen 75 = .ok (.istore_n 2, 1) := by decide +kernel
theorem dX9_isSeen_76 : decode cX9_isSeen 76 = .ok (.iload_n 2, 1) := by decide +kernel
theorem dX9_isSeen_77 : decode cX9_isSeen 77 = .ok (.aload_n 0, 1) := by decide +kernel
theorem dX9_isSeen_78 : decode cX9_isSeen 78 = .ok (.getfield 275, 3) := by decide +kernel
theorem dX9_isSeen_81 : decode cX9_isSeen 81 = .ok (.if_icmp .ge 24, 3) := by decide +kernel
theorem dX9_isSeen_84 : decode cX9_isSeen 84 = .ok (.aload_n 0, 1) := by decide +kernel
theorem dX9_isSeen_85 : decode cX9_isSeen 85 = .ok (.getfield 96, 3) := by decide +kernel
theorem dX9_isSeen_88 : decode cX9_isSeen 88 = .ok (.iload_n 2, 1) := by decide +kernel
theorem dX9_isSeen_89 : decode cX9_isSeen 89 = .ok (.aload_n 0, 1) := by decide +kernel
theorem dX9_isSeen_90 : decode cX9_isSeen 90 = .ok (.getfield 66, 3) := by decide +kernel
theorem dX9_isSeen_93 : decode cX9_isSeen 93 = .ok (.bipush 54, 2) := by decide +kernel
theorem dX9_isSeen_95 : decode cX9_isSeen 95 = .ok (.iload_n 2, 1) := by decide +kernel
theorem dX9_isSeen_96 : decode cX9_isSeen 96 = .ok (.iadd, 1) := by decide +kernel
theorem dX9_isSeen_97 : decode cX9_isSeen 97 = .ok (.iaload, 1) := by decide +kernel
theorem dX9_isSeen_98 : decode cX9_isSeen 98 = .ok (.iastore, 1) := by decide +kernel
theorem dX9_isSeen_99 : decode cX9_isSeen 99 = .ok (.iinc 2 1, 3) := by decide +kernel
theorem dX9_isSeen_102 : decode cX9_isSeen 102 = .ok (.goto (-26), 3) := by decide +kernel
theorem dX9_isSeen_105 : decode cX9_isSeen 105 = .ok (.aload_n 0, 1) := by decide +kernel
theorem dX9_isSeen_106 : decode cX9_isSeen 106 = .ok (.bipush 43, 2) := by decide +kernel
theorem dX9_isSeen_108 : decode cX9_isSeen 108 = .ok (.invokevirtual 336, 3) := by decide +kernel
theorem dX9_isSeen_111 : decode cX9_isSeen 111 = .ok (.iinc 1 1, 3) := by decide +kernel
theorem dX9_isSeen_114 : decode cX9_isSeen 114 = .ok (.goto (-112), 3) := by decide +kernel
theorem dX9_isSeen_117 : decode cX9_isSeen 117 = .ok (.iconst 1, 1) := by decide +kernel
theorem dX9_isSeen_118 : decode cX9_isSeen 118 = .ok (.ireturn, 1) := by decide +kernel
theorem dX9_isGuess_0 : decode cX9_isGuess 0 = .ok (.iload_n 1, 1) := by decide +kernel
theorem dX9_isGuess_1 : decode cX9_isGuess 1 = .ok (.bipush 60, 2) := by decide +kernel
theorem dX9_isGuess_3 : decode cX9_isGuess 3 = .ok (.idiv, 1) := by decide +kernel
theorem dX9_isGuess_4 : decode cX9_isGuess 4 = .ok (.istore_n 2, 1) := by decide +kernel
theorem dX9_isGuess_5 : decode cX9_isGuess 5 = .ok (.aload_n 0, 1) := by decide +kernel
theorem dX9_isGuess_6 : decode cX9_isGuess 6 = .ok (.getfield 66, 3) := by decide +kernel
theorem dX9_isGuess_9 : decode cX9_isGuess 9 = .ok (.bipush 27, 2) := by decide +kernel
theorem dX9_isGuess_11 : decode cX9_isGuess 11 = .ok (.iload_n 2, 1) := by decide +kernel
theorem dX9_isGuess_12 : decode cX9_isGuess 12 = .ok (.iadd, 1) := by decide +kernel
theorem dX9_isGuess_13 : decode cX9_isGuess 13 = .ok (.iaload, 1) := by decide +kernel
theorem dX9_isGuess_14 : decode cX9_isGuess 14 = .ok (.iload_n 1, 1) := by decide +kernel
theorem dX9_isGuess_15 : decode cX9_isGuess 15 = .ok (.bipush 60, 2) := by decide +kernel
theorem dX9_isGuess_17 : decode cX9_isGuess 17 = .ok (.irem, 1) := by decide +kernel
theorem dX9_isGuess_18 : decode cX9_isGuess 18 = .ok (.iconst 1, 1) := by decide +kernel
theorem dX9_isGuess_19 : decode cX9_isGuess 19 = .ok (.iadd, 1) := by decide +kernel
theorem dX9_isGuess_20 : decode cX9_isGuess 20 = .ok (.if_icmp .ne 5, 3) := by decide +kernel
theorem dX9_isGuess_23 : decode cX9_isGuess 23 = .ok (.iconst 0, 1) := by decide +kernel
theorem dX9_isGuess_24 : decode cX9_isGuess 24 = .ok (.ireturn, 1) := by decide +kernel
theorem dX9_isGuess_25 : decode cX9_isGuess 25 = .ok (.aload_n 0, 1) := by decide +kernel
theorem dX9_isGuess_26 : decode cX9_isGuess 26 = .ok (.invokevirtual 391, 3) := by decide +kernel
theorem dX9_isGuess_29 : decode cX9_isGuess 29 = .ok (.aload_n 0, 1) := by decide +kernel
theorem dX9_isGuess_30 : decode cX9_isGuess 30 = .ok (.getfield 66, 3) := by decide +kernel
theorem dX9_isGuess_33 : decode cX9_isGuess 33 = .ok (.bipush 70, 2) := by decide +kernel
theorem dX9_isGuess_35 : decode cX9_isGuess 35 = .ok (.iload_n 2, 1) := by decide +kernel
theorem dX9_isGuess_36 : decode cX9_isGuess 36 = .ok (.iadd, 1) := by decide +kernel
theorem dX9_isGuess_37 : decode cX9_isGuess 37 = .ok (.iload_n 1, 1) := by decide +kernel
theorem dX9_isGuess_38 : decode cX9_isGuess 38 = .ok (.bipush 60, 2) := by decide +kernel
theorem dX9_isGuess_40 : decode cX9_isGuess 40 = .ok (.irem, 1) := by decide +kernel
theorem dX9_isGuess_41 : decode cX9_isGuess 41 = .ok (.iconst 1, 1) := by decide +kernel
theorem dX9_isGuess_42 : decode cX9_isGuess 42 = .ok (.iadd, 1) := by decide +kernel
theorem dX9_isGuess_43 : decode cX9_isGuess 43 = .ok (.iastore, 1) := by decide +kernel
theorem dX9_isGuess_44 : decode cX9_isGuess 44 = .ok (.aload_n 0, 1) := by decide +kernel
theorem dX9_isGuess_45 : decode cX9_isGuess 45 = .ok (.invokevirtual 424, 3) := by decide +kernel
theorem dX9_isGuess_48 : decode cX9_isGuess 48 = .ok (.ireturn, 1) := by decide +kernel
theorem dX9_large_0 : decode cX9_large 0 = .ok (.aload_n 0, 1) := by decide +kernel
theorem dX9_large_1 : decode cX9_large 1 = .ok (.iconst 0, 1) := by decide +kernel
theorem dX9_large_2 : decode cX9_large 2 = .ok (.putfield 111, 3) := by decide +kernel
theorem dX9_large_5 : decode cX9_large 5 = .ok (.aload_n 0, 1) := by decide +kernel
theorem dX9_large_6 : decode cX9_large 6 = .ok (.iload_n 1, 1) := by decide +kernel
theorem dX9_large_7 : decode cX9_large 7 = .ok (.iconst 2, 1) := by decide +kernel
theorem dX9_large_8 : decode cX9_large 8 = .ok (.invokevirtual 370, 3) := by decide +kernel
theorem dX9_large_11 : decode cX9_large 11 = .ok (.ifCond .ne 5, 3) := by decide +kernel
theorem dX9_large_14 : decode cX9_large 14 = .ok (.iconst 0, 1) := by decide +kernel
theorem dX9_large_15 : decode cX9_large 15 = .ok (.ireturn, 1) := by decide +kernel
theorem dX9_large_16 : decode cX9_large 16 = .ok (.iload_n 1, 1) := by decide +kernel
theorem dX9_large_17 : decode cX9_large 17 = .ok (.iconst 2, 1) := by decide +kernel
theorem dX9_large_18 : decode cX9_large 18 = .ok (.if_icmp .ne 20, 3) := by decide +kernel
theorem dX9_large_21 : decode cX9_large 21 = .ok (.aload_n 0, 1) := by decide +kernel
theorem dX9_large_22 : decode cX9_large 22 = .ok (.invokevirtual 391, 3) := by decide +kernel
theorem dX9_large_25 : decode cX9_large 25 = .ok (.aload_n 0, 1) := by decide +kernel
theorem dX9_large_26 : decode cX9_large 26 = .ok (.invokevirtual 424, 3) := by decide +kernel
theorem dX9_large_29 : decode cX9_large 29 = .ok (.ifCond .eq 7, 3) := by decide +kernel
theorem dX9_large_32 : decode cX9_large 32 = .ok (.iconst 1, 1) := by decide +kernel
theorem dX9_large_33 : decode cX9_large 33 = .ok (.goto 4, 3) := by decide +kernel
theorem dX9_large_36 : decode cX9_large 36 = .ok (.iconst 0, 1) := by decide +kernel
theorem dX9_large_37 : decode cX9_large 37 = .ok (.ireturn, 1) := by decide +kernel
theorem dX9_large_38 : decode cX9_large 38 = .ok (.iconst 0, 1) := by decide +kernel
theorem dX9_large_39 : decode cX9_large 39 = .ok (.istore_n 2, 1) := by decide +kernel
theorem dX9_large_40 : decode cX9_large 40 = .ok (.iconst (-1), 1) := by decide +kernel
theorem dX9_large_41 : decode cX9_large 41 = .ok (.istore_n 3, 1) := by decide +kernel
theorem dX9_large_42 : decode cX9_large 42 = .ok (.iconst 0, 1) := by decide +kernel
theorem dX9_large_43 : decode cX9_large 43 = .ok (.istore 4, 2) := by decide +kernel
theorem dX9_large_45 : decode cX9_large 45 = .ok (.iload 4, 2) := by decide +kernel
theorem dX9_large_47 : decode cX9_large 47 = .ok (.bipush 60, 2) := by decide +kernel
theorem dX9_large_49 : decode cX9_large 49 = .ok (.aload_n 0, 1) := by decide +kernel
theorem dX9_large_50 : decode cX9_large 50 = .ok (.getfield 278, 3) := by decide +kernel
theorem dX9_large_53 : decode cX9_large 53 = .ok (.imul, 1) := by decide +kernel
theorem dX9_large_54 : decode cX9_large 54 = .ok (.if_icmp .ge 46, 3) := by decide +kernel
theorem dX9_large_57 : decode cX9_large 57 = .ok (.aload_n 0, 1) := by decide +kernel
theorem dX9_large_58 : decode cX9_large 58 = .ok (.iload 4, 2) := by decide +kernel
theorem dX9_large_60 : decode cX9_large 60 = .ok (.invokevirtual 427, 3) := by decide +kernel
theorem dX9_large_63 : decode cX9_large 63 = .ok (.ifCond .ne 6, 3) := by decide +kernel
theorem dX9_large_66 : decode cX9_large 66 = .ok (.goto 28, 3) := by decide +kernel
theorem dX9_large_69 : decode cX9_large 69 = .ok (.iinc 2 1, 3) := by decide +kernel
theorem dX9_large_72 : decode cX9_large 72 = .ok (.iload_n 3, 1) := by decide +kernel
theorem dX9_large_73 : decode cX9_large 73 = .ok (.iconst (-1), 1) := by decide +kernel
theorem dX9_large_74 : decode cX9_large 74 = .ok (.if_icmp .ne 20, 3) := by decide +kernel
theorem dX9_large_77 : decode cX9_large 77 = .ok (.iload 4, 2) := by decide +kernel
theorem dX9_large_79 : decode cX9_large 79 = .ok (.bipush 60, 2) := by decide +kernel
theorem dX9_large_81 : decode cX9_large 81 = .ok (.idiv, 1) := by decide +kernel
theorem dX9_large_82 : decode cX9_large 82 = .ok (.bipush 100, 2) := by decide +kernel
theorem dX9_large_84 : decode cX9_large 84 = .ok (.imul, 1) := by decide +kernel
theorem dX9_large_85 : decode cX9_large 85 = .ok (.iload 4, 2) := by decide +kernel
theorem dX9_large_87 : decode cX9_large 87 = .ok (.bipush 60, 2) := by decide +kernel
theorem dX9_large_89 : decode cX9_large 89 = .ok (.irem, 1) := by decide +kernel
theorem dX9_large_90 : decode cX9_large 90 = .ok (.iadd, 1) := by decide +kernel
theorem dX9_large_91 : decode cX9_large 91 = .ok (.iconst 1, 1) := by decide +kernel
theorem dX9_large_92 : decode cX9_large 92 = .ok (.iadd, 1) := by decide +kernel
theorem dX9_large_93 : decode cX9_large 93 = .ok (.istore_n 3, 1) := by decide +kernel
theorem dX9_large_94 : decode cX9_large 94 = .ok (.iinc 4 1, 3) := by decide +kernel
theorem dX9_large_97 : decode cX9_large 97 = .ok (.goto (-52), 3) := by decide +kernel
theorem dX9_large_100 : decode cX9_large 100 = .ok (.iload_n 1, 1) := by decide +kernel
theorem dX9_large_101 : decode cX9_large 101 = .ok (.ifCond .ne 7, 3) := by decide +kernel
theorem dX9_large_104 : decode cX9_large 104 = .ok (.iload_n 2, 1) := by decide +kernel
theorem dX9_large_105 : decode cX9_large 105 = .ok (.goto 4, 3) := by decide +kernel
theorem dX9_large_108 : decode cX9_large 108 = .ok (.iload_n 3, 1) := by decide +kernel
theorem dX9_large_109 : decode cX9_large 109 = .ok (.ireturn, 1) := by decide +kernel
theorem dX9_next_0 : decode cX9_next 0 = .ok (.aload_n 0, 1) := by decide +kernel
theorem dX9_next_1 : decode cX9_next 1 = .ok (.iconst 0, 1) := by decide +kernel
theorem dX9_next_2 : decode cX9_next 2 = .ok (.putfield 111, 3) := by decide +kernel
theorem dX9_next_5 : decode cX9_next 5 = .ok (.aload_n 0, 1) := by decide +kernel
theorem dX9_next_6 : decode cX9_next 6 = .ok (.iload_n 1, 1) := by decide +kernel
theorem dX9_next_7 : decode cX9_next 7 = .ok (.iconst 1, 1) := by decide +kernel
theorem dX9_next_8 : decode cX9_next 8 = .ok (.invokevirtual 370, 3) := by decide +kernel
theorem dX9_next_11 : decode cX9_next 11 = .ok (.ifCond .ne 5, 3) := by decide +kernel
theorem dX9_next_14 : decode cX9_next 14 = .ok (.iconst 0, 1) := by decide +kernel
theorem dX9_next_15 : decode cX9_next 15 = .ok (.ireturn, 1) := by decide +kernel
theorem dX9_next_16 : decode cX9_next 16 = .ok (.iconst 0, 1) := by decide +kernel
theorem dX9_next_17 : decode cX9_next 17 = .ok (.istore_n 2, 1) := by decide +kernel
theorem dX9_next_18 : decode cX9_next 18 = .ok (.iconst 0, 1) := by decide +kernel
theorem dX9_next_19 : decode cX9_next 19 = .ok (.istore_n 3, 1) := by decide +kernel
theorem dX9_next_20 : decode cX9_next 20 = .ok (.iload_n 3, 1) := by decide +kernel
theorem dX9_next_21 : decode cX9_next 21 = .ok (.bipush 60, 2) := by decide +kernel
theorem dX9_next_23 : decode cX9_next 23 = .ok (.aload_n 0, 1) := by decide +kernel
theorem dX9_next_24 : decode cX9_next 24 = .ok (.getfield 278, 3) := by decide +kernel
theorem dX9_next_27 : decode cX9_next 27 = .ok (.imul, 1) := by decide +kernel
theorem dX9_next_28 : decode cX9_next 28 = .ok (.if_icmp .ge 60, 3) := by decide +kernel
theorem dX9_next_31 : decode cX9_next 31 = .ok (.aload_n 0, 1) := by decide +kernel
theorem dX9_next_32 : decode cX9_next 32 = .ok (.iload_n 3, 1) := by decide +kernel
theorem dX9_next_33 : decode cX9_next 33 = .ok (.invokevirtual 427, 3) := by decide +kernel
theorem dX9_next_36 : decode cX9_next 36 = .ok (.ifCond .ne 6, 3) := by decide +kernel
theorem dX9_next_39 : decode cX9_next 39 = .ok (.goto 43, 3) := by decide +kernel
theorem dX9_next_42 : decode cX9_next 42 = .ok (.iconst 0, 1) := by decide +kernel
theorem dX9_next_43 : decode cX9_next 43 = .ok (.istore 4, 2) := by decide +kernel
theorem dX9_next_45 : decode cX9_next 45 = .ok (.iload 4, 2) := by decide +kernel
theorem dX9_next_47 : decode cX9_next 47 = .ok (.aload_n 0, 1) := by decide +kernel
theorem dX9_next_48 : decode cX9_next 48 = .ok (.getfield 275, 3) := by decide +kernel
theorem dX9_next_51 : decode cX9_next 51 = .ok (.if_icmp .ge 28, 3) := by decide +kernel
theorem dX9_next_54 : decode cX9_next 54 = .ok (.aload_n 0, 1) := by decide +kernel
theorem dX9_next_55 : decode cX9_next 55 = .ok (.getfield 99, 3) := by decide +kernel
theorem dX9_next_58 : decode cX9_next 58 = .ok (.bipush 8, 2) := by decide +kernel
theorem dX9_next_60 : decode cX9_next 60 = .ok (.iload_n 2, 1) := by decide +kernel
theorem dX9_next_61 : decode cX9_next 61 = .ok (.imul, 1) := by decide +kernel
theorem dX9_next_62 : decode cX9_next 62 = .ok (.iload 4, 2) := by decide +kernel
theorem dX9_next_64 : decode cX9_next 64 = .ok (.iadd, 1) := by decide +kernel
theorem dX9_next_65 : decode cX9_next 65 = .ok (.aload_n 0, 1) := by decide +kernel
theorem dX9_next_66 : decode cX9_next 66 = .ok (.getfield 96, 3) := by decide +kernel
theorem dX9_next_69 : decode cX9_next 69 = .ok (.iload 4, 2) := by decide +kernel
theorem dX9_next_71 : decode cX9_next 71 = .ok (.iaload, 1) := by decide +kernel
theorem dX9_next_72 : decode cX9_next 72 = .ok (.iastore, 1) := by decide +kernel
theorem dX9_next_73 : decode cX9_next 73 = .ok (.iinc 4 1, 3) := by decide +kernel
theorem dX9_next_76 : decode cX9_next 76 = .ok (.goto (-31), 3) := by decide +kernel
theorem dX9_next_79 : decode cX9_next 79 = .ok (.iinc 2 1, 3) := by decide +kernel
theorem dX9_next_82 : decode cX9_next 82 = .ok (.iinc 3 1, 3) := by decide +kernel
theorem dX9_next_85 : decode cX9_next 85 = .ok (.goto (-65), 3) := by decide +kernel
theorem dX9_next_88 : decode cX9_next 88 = .ok (.iconst (-1), 1) := by decide +kernel
theorem dX9_next_89 : decode cX9_next 89 = .ok (.istore_n 3, 1) := by decide +kernel
theorem dX9_next_90 : decode cX9_next 90 = .ok (.iconst 0, 1) := by decide +kernel
theorem dX9_next_91 : decode cX9_next 91 = .ok (.istore 4, 2) := by decide +kernel
theorem dX9_next_93 : decode cX9_next 93 = .ok (.iconst 0, 1) := by decide +kernel
theorem dX9_next_94 : decode cX9_next 94 = .ok (.istore 5, 2) := by decide +kernel
theorem dX9_next_96 : decode cX9_next 96 = .ok (.iload 5, 2) := by decide +kernel
theorem dX9_next_98 : decode cX9_next 98 = .ok (.aload_n 0, 1) := by decide +kernel
theorem dX9_next_99 : decode cX9_next 99 = .ok (.getfield 275, 3) := by decide +kernel
theorem dX9_next_102 : decode cX9_next 102 = .ok (.if_icmp .ge 119, 3) := by decide +kernel
theorem dX9_next_105 : decode cX9_next 105 = .ok (.iconst 0, 1) := by decide +kernel
theorem dX9_next_106 : decode cX9_next 106 = .ok (.istore 6, 2) := by decide +kernel
theorem dX9_next_108 : decode cX9_next 108 = .ok (.iconst 0, 1) := by decide +kernel
theorem dX9_next_109 : decode cX9_next 109 = .ok (.istore 7, 2) := by decide +kernel
theorem dX9_next_111 : decode cX9_next 111 = .ok (.iload 7, 2) := by decide +kernel
theorem dX9_next_113 : decode cX9_next 113 = .ok (.iload_n 2, 1) := by decide +kernel
theorem dX9_next_114 : decode cX9_next 114 = .ok (.if_icmp .ge 84, 3) := by decide +kernel
theorem dX9_next_117 : decode cX9_next 117 = .ok (.iconst 1, 1) := by decide +kernel
theorem dX9_next_118 : decode cX9_next 118 = .ok (.istore 8, 2) := by decide +kernel
theorem dX9_next_120 : decode cX9_next 120 = .ok (.iconst 0, 1) := by decide +kernel
theorem dX9_next_121 : decode cX9_next 121 = .ok (.istore 9, 2) := by decide +kernel
theorem dX9_next_123 : decode cX9_next 123 = .ok (.iload 9, 2) := by decide +kernel
theorem dX9_next_125 : decode cX9_next 125 = .ok (.iload 7, 2) := by decide +kernel
theorem dX9_next_127 : decode cX9_next 127 = .ok (.if_icmp .ge 50, 3) := by decide +kernel
theorem dX9_next_130 : decode cX9_next 130 = .ok (.iload 8, 2) := by decide +kernel
theorem dX9_next_132 : decode cX9_next 132 = .ok (.ifCond .eq 45, 3) := by decide +kernel
theorem dX9_next_135 : decode cX9_next 135 = .ok (.aload_n 0, 1) := by decide +kernel
theorem dX9_next_136 : decode cX9_next 136 = .ok (.getfield 99, 3) := by decide +kernel
theorem dX9_next_139 : decode cX9_next 139 = .ok (.bipush 8, 2) := by decide +kernel
theorem dX9_next_141 : decode cX9_next 141 = .ok (.iload 7, 2) := by decide +kernel
theorem dX9_next_143 : decode cX9_next 143 = .ok (.imul, 1) := by decide +kernel
theorem dX9_next_144 : decode cX9_next 144 = .ok (.iload 5, 2) := by decide +kernel
theorem dX9_next_146 : decode cX9_next 146 = .ok (.iadd, 1) := by decide +kernel
theorem dX9_next_147 : decode cX9_next 147 = .ok (.iaload, 1) := by decide +kernel
theorem dX9_next_148 : decode cX9_next 148 = .ok (.aload_n 0, 1) := by decide +kernel
theorem dX9_next_149 : decode cX9_next 149 = .ok (.getfield 99, 3) := by decide +kernel
theorem dX9_next_152 : decode cX9_next 152 = .ok (.bipush 8, 2) := by decide +kernel
theorem dX9_next_154 : decode cX9_next 154 = .ok (.iload 9, 2) := by decide +kernel
theorem dX9_next_156 : decode cX9_next 156 = .ok (.imul, 1) := by decide +kernel
theorem dX9_next_157 : decode cX9_next 157 = .ok (.iload 5, 2) := by decide +kernel
theorem dX9_next_159 : decode cX9_next 159 = .ok (.iadd, 1) := by decide +kernel
theorem dX9_next_160 : decode cX9_next 160 = .ok (.iaload, 1) := by decide +kernel
theorem dX9_next_161 : decode cX9_next 161 = .ok (.if_icmp .eq 7, 3) := by decide +kernel
theorem dX9_next_164 : decode cX9_next 164 = .ok (.iconst 1, 1) := by decide +kernel
theorem dX9_next_165 : decode cX9_next 165 = .ok (.goto 4, 3) := by decide +kernel
theorem dX9_next_168 : decode cX9_next 168 = .ok (.iconst 0, 1) := by decide +kernel
theorem dX9_next_169 : decode cX9_next 169 = .ok (.istore 8, 2) := by decide +kernel
theorem dX9_next_171 : decode cX9_next 171 = .ok (.iinc 9 1, 3) := by decide +kernel
theorem dX9_next_174 : decode cX9_next 174 = .ok (.goto (-51), 3) := by decide +kernel
theorem dX9_next_177 : decode cX9_next 177 = .ok (.iload 6, 2) := by decide +kernel
theorem dX9_next_179 : decode cX9_next 179 = .ok (.iload 8, 2) := by decide +kernel
theorem dX9_next_181 : decode cX9_next 181 = .ok (.ifCond .eq 7, 3) := by decide +kernel
theorem dX9_next_184 : decode cX9_next 184 = .ok (.iconst 1, 1) := by decide +kernel
theorem dX9_next_185 : decode cX9_next 185 = .ok (.goto 4, 3) := by decide +kernel
theorem dX9_next_188 : decode cX9_next 188 = .ok (.iconst 0, 1) := by decide +kernel
theorem dX9_next_189 : decode cX9_next 189 = .ok (.iadd, 1) := by decide +kernel
theorem dX9_next_190 : decode cX9_next 190 = .ok (.istore 6, 2) := by decide +kernel
theorem dX9_next_192 : decode cX9_next 192 = .ok (.iinc 7 1, 3) := by decide +kernel
theorem dX9_next_195 : decode cX9_next 195 = .ok (.goto (-84), 3) := by decide +kernel
theorem dX9_next_198 : decode cX9_next 198 = .ok (.iload 6, 2) := by decide +kernel
theorem dX9_next_200 : decode cX9_next 200 = .ok (.iload 4, 2) := by decide +kernel
theorem dX9_next_202 : decode cX9_next 202 = .ok (.if_icmp .gt 6, 3) := by decide +kernel
theorem dX9_next_205 : decode cX9_next 205 = .ok (.goto 10, 3) := by decide +kernel
theorem dX9_next_208 : decode cX9_next 208 = .ok (.iload 5, 2) := by decide +kernel
theorem dX9_next_210 : decode cX9_next 210 = .ok (.istore_n 3, 1) := by decide +kernel
theorem dX9_next_211 : decode cX9_next 211 = .ok (.iload 6, 2) := by decide +kernel
theorem dX9_next_213 : decode cX9_next 213 = .ok (.istore 4, 2) := by decide +kernel
theorem dX9_next_215 : decode cX9_next 215 = .ok (.iinc 5 1, 3) := by decide +kernel
theorem dX9_next_218 : decode cX9_next 218 = .ok (.goto (-122), 3) := by decide +kernel
theorem dX9_next_221 : decode cX9_next 221 = .ok (.iload_n 1, 1) := by decide +kernel
theorem dX9_next_222 : decode cX9_next 222 = .ok (.ifCond .ne 7, 3) := by decide +kernel
theorem dX9_next_225 : decode cX9_next 225 = .ok (.iload_n 3, 1) := by decide +kernel
theorem dX9_next_226 : decode cX9_next 226 = .ok (.goto 5, 3) := by decide +kernel
theorem dX9_next_229 : decode cX9_next 229 = .ok (.iload 4, 2) := by decide +kernel
theorem dX9_next_231 : decode cX9_next 231 = .ok (.ireturn, 1) := by decide +kernel
theorem dX9_byDamp_0 : decode cX9_byDamp 0 = .ok (.aload_n 0, 1) := by decide +kernel
theorem dX9_byDamp_1 : decode cX9_byDamp 1 = .ok (.iconst 0, 1) := by decide +kernel
theorem dX9_byDamp_2 : decode cX9_byDamp 2 = .ok (.putfield 111, 3) := by decide +kernel
theorem dX9_byDamp_5 : decode cX9_byDamp 5 = .ok (.aload_n 0, 1) := by decide +kernel
theorem dX9_byDamp_6 : decode cX9_byDamp 6 = .ok (.iload_n 1, 1) := by decide +kernel
theorem dX9_byDamp_7 : decode cX9_byDamp 7 = .ok (.invokevirtual 367, 3) := by decide +kernel
theorem dX9_byDamp_10 : decode cX9_byDamp 10 = .ok (.ifCond .eq 35, 3) := by decide +kernel
theorem dX9_byDamp_13 : decode cX9_byDamp 13 = .ok (.aload_n 0, 1) := by decide +kernel
theorem dX9_byDamp_14 : decode cX9_byDamp 14 = .ok (.iload_n 2, 1) := by decide +kernel
theorem dX9_byDamp_15 : decode cX9_byDamp 15 = .ok (.iconst 1, 1) := by decide +kernel
theorem dX9_byDamp_16 : decode cX9_byDamp 16 = .ok (.iconst 5, 1) := by decide +kernel
theorem dX9_byDamp_17 : decode cX9_byDamp 17 = .ok (.invokestatic 345, 3) := by decide +kernel
theorem dX9_byDamp_20 : decode cX9_byDamp 20 = .ok (.ifCond .eq 17, 3) := by decide +kernel
theorem dX9_byDamp_23 : decode cX9_byDamp 23 = .ok (.iload_n 3, 1) := by decide +kernel
theorem dX9_byDamp_24 : decode cX9_byDamp 24 = .ok (.iconst 0, 1) := by decide +kernel
theorem dX9_byDamp_25 : decode cX9_byDamp 25 = .ok (.bipush 10, 2) := by decide +kernel
theorem dX9_byDamp_27 : decode cX9_byDamp 27 = .ok (.invokestatic 345, 3) := by decide +kernel
theorem dX9_byDamp_30 : decode cX9_byDamp 30 = .ok (.ifCond .eq 7, 3) := by decide +kernel
theorem dX9_byDamp_33 : decode cX9_byDamp 33 = .ok (.iconst 1, 1) := by decide +kernel
theorem dX9_byDamp_34 : decode cX9_byDamp 34 = .ok (.goto 4, 3) := by decide +kernel
theorem dX9_byDamp_37 : decode cX9_byDamp 37 = .ok (.iconst 0, 1) := by decide +kernel
theorem dX9_byDamp_38 : decode cX9_byDamp 38 = .ok (.iconst 2, 1) := by decide +kernel
theorem dX9_byDamp_39 : decode cX9_byDamp 39 = .ok (.invokevirtual 268, 3) := by decide +kernel
theorem dX9_byDamp_42 : decode cX9_byDamp 42 = .ok (.ifCond .ne 5, 3) := by decide +kernel
theorem dX9_byDamp_45 : decode cX9_byDamp 45 = .ok (.iconst 0, 1) := by decide +kernel
theorem dX9_byDamp_46 : decode cX9_byDamp 46 = .ok (.ireturn, 1) := by decide +kernel
theorem dX9_byDamp_47 : decode cX9_byDamp 47 = .ok (.iconst 0, 1) := by decide +kernel
theorem dX9_byDamp_48 : decode cX9_byDamp 48 = .ok (.istore 4, 2) := by decide +kernel
theorem dX9_byDamp_50 : decode cX9_byDamp 50 = .ok (.iconst 0, 1) := by decide +kernel
theorem dX9_byDamp_51 : decode cX9_byDamp 51 = .ok (.istore 5, 2) := by decide +kernel
theorem dX9_byDamp_53 : decode cX9_byDamp 53 = .ok (.iload 5, 2) := by decide +kernel
theorem dX9_byDamp_55 : decode cX9_byDamp 55 = .ok (.iconst 1, 1) := by decide +kernel
theorem dX9_byDamp_56 : decode cX9_byDamp 56 = .ok (.iload_n 2, 1) := by decide +kernel
theorem dX9_byDamp_57 : decode cX9_byDamp 57 = .ok (.ishl, 1) := by decide +kernel
theorem dX9_byDamp_58 : decode cX9_byDamp 58 = .ok (.if_icmp .ge 109, 3) := by decide +kernel
theorem dX9_byDamp_61 : decode cX9_byDamp 61 = .ok (.iconst 1, 1) := by decide +kernel
theorem dX9_byDamp_62 : decode cX9_byDamp 62 = .ok (.istore 6, 2) := by decide +kernel
theorem dX9_byDamp_64 : decode cX9_byDamp 64 = .ok (.aload_n 0, 1) := by decide +kernel
theorem dX9_byDamp_65 : decode cX9_byDamp 65 = .ok (.invokevirtual 391, 3) := by decide +kernel
theorem dX9_byDamp_68 : decode cX9_byDamp 68 = .ok (.iconst 0, 1) := by decide +kernel
theorem dX9_byDamp_69 : decode cX9_byDamp 69 = .ok (.istore 7, 2) := by decide +kernel
theorem dX9_byDamp_71 : decode cX9_byDamp 71 = .ok (.iload 7, 2) := by decide +kernel
theorem dX9_byDamp_73 : decode cX9_byDamp 73 = .ok (.iload_n 2, 1) := by decide +kernel
theorem dX9_byDamp_74 : decode cX9_byDamp 74 = .ok (.if_icmp .ge 66, 3) := by decide +kernel
theorem dX9_byDamp_77 : decode cX9_byDamp 77 = .ok (.iload 5, 2) := by decide +kernel
theorem dX9_byDamp_79 : decode cX9_byDamp 79 = .ok (.iload 7, 2) := by decide +kernel
theorem dX9_byDamp_81 : decode cX9_byDamp 81 = .ok (.ishr, 1) := by decide +kernel
theorem dX9_byDamp_82 : decode cX9_byDamp 82 = .ok (.iconst 1, 1) := by decide +kernel
theorem dX9_byDamp_83 : decode cX9_byDamp 83 = .ok (.iand, 1) := by decide +kernel
theorem dX9_byDamp_84 : decode cX9_byDamp 84 = .ok (.iconst 1, 1) := by decide +kernel
theorem dX9_byDamp_85 : decode cX9_byDamp 85 = .ok (.if_icmp .ne 7, 3) := by decide +kernel
theorem dX9_byDamp_88 : decode cX9_byDamp 88 = .ok (.iconst 1, 1) := by decide +kernel
theorem dX9_byDamp_89 : decode cX9_byDamp 89 = .ok (.goto 4, 3) := by decide +kernel
theorem dX9_byDamp_92 : decode cX9_byDamp 92 = .ok (.iconst 0, 1) := by decide +kernel
theorem dX9_byDamp_93 : decode cX9_byDamp 93 = .ok (.istore 8, 2) := by decide +kernel
theorem dX9_byDamp_95 : decode cX9_byDamp 95 = .ok (.iload 6, 2) := by decide +kernel
theorem dX9_byDamp_97 : decode cX9_byDamp 97 = .ok (.iload 8, 2) := by decide +kernel
theorem dX9_byDamp_99 : decode cX9_byDamp 99 = .ok (.ifCond .eq 7, 3) := by decide +kernel
theorem dX9_byDamp_102 : decode cX9_byDamp 102 = .ok (.iload_n 3, 1) := by decide +kernel
theorem dX9_byDamp_103 : decode cX9_byDamp 103 = .ok (.goto 7, 3) := by decide +kernel
theorem dX9_byDamp_106 : decode cX9_byDamp 106 = .ok (.bipush 10, 2) := by decide +kernel
theorem dX9_byDamp_108 : decode cX9_byDamp 108 = .ok (.iload_n 3, 1) := by decide +kernel
theorem dX9_byDamp_109 : decode cX9_byDamp 109 = .ok (.isub, 1) := by decide +kernel
theorem dX9_byDamp_110 : decode cX9_byDamp 110 = .ok (.imul, 1) := by decide +kernel
theorem dX9_byDamp_111 : decode cX9_byDamp 111 = .ok (.istore 6, 2) := by decide +kernel
theorem dX9_byDamp_113 : decode cX9_byDamp 113 = .ok (.aload_n 0, 1) := by decide +kernel
theorem dX9_byDamp_114 : decode cX9_byDamp 114 = .ok (.iload 8, 2) := by decide +kernel
theorem dX9_byDamp_116 : decode cX9_byDamp 116 = .ok (.ifCond .eq 8, 3) := by decide +kernel
theorem dX9_byDamp_119 : decode cX9_byDamp 119 = .ok (.bipush 9, 2) := by decide +kernel
theorem dX9_byDamp_121 : decode cX9_byDamp 121 = .ok (.goto 4, 3) := by decide +kernel
theorem dX9_byDamp_124 : decode cX9_byDamp 124 = .ok (.iconst 0, 1) := by decide +kernel
theorem dX9_byDamp_125 : decode cX9_byDamp 125 = .ok (.putfield 78, 3) := by decide +kernel
theorem dX9_byDamp_128 : decode cX9_byDamp 128 = .ok (.aload_n 0, 1) := by decide +kernel
theorem dX9_byDamp_129 : decode cX9_byDamp 129 = .ok (.bipush 43, 2) := by decide +kernel
theorem dX9_byDamp_131 : decode cX9_byDamp 131 = .ok (.invokevirtual 336, 3) := by decide +kernel
theorem dX9_byDamp_134 : decode cX9_byDamp 134 = .ok (.iinc 7 1, 3) := by decide +kernel
theorem dX9_byDamp_137 : decode cX9_byDamp 137 = .ok (.goto (-66), 3) := by decide +kernel
theorem dX9_byDamp_140 : decode cX9_byDamp 140 = .ok (.iload 4, 2) := by decide +kernel
theorem dX9_byDamp_142 : decode cX9_byDamp 142 = .ok (.aload_n 0, 1) := by decide +kernel
theorem dX9_byDamp_143 : decode cX9_byDamp 143 = .ok (.bipush 43, 2) := by decide +kernel
theorem dX9_byDamp_145 : decode cX9_byDamp 145 = .ok (.iload_n 1, 1) := by decide +kernel
theorem dX9_byDamp_146 : decode cX9_byDamp 146 = .ok (.invokevirtual 322, 3) := by decide +kernel
theorem dX9_byDamp_149 : decode cX9_byDamp 149 = .ok (.ifCond .eq 8, 3) := by decide +kernel
theorem dX9_byDamp_152 : decode cX9_byDamp 152 = .ok (.iload 6, 2) := by decide +kernel
theorem dX9_byDamp_154 : decode cX9_byDamp 154 = .ok (.goto 4, 3) := by decide +kernel
theorem dX9_byDamp_157 : decode cX9_byDamp 157 = .ok (.iconst 0, 1) := by decide +kernel
theorem dX9_byDamp_158 : decode cX9_byDamp 158 = .ok (.iadd, 1) := by decide +kernel
theorem dX9_byDamp_159 : decode cX9_byDamp 159 = .ok (.istore 4, 2) := by decide +kernel
theorem dX9_byDamp_161 : decode cX9_byDamp 161 = .ok (.iinc 5 1, 3) := by decide +kernel
theorem dX9_byDamp_164 : decode cX9_byDamp 164 = .ok (.goto (-111), 3) := by decide +kernel
theorem dX9_byDamp_167 : decode cX9_byDamp 167 = .ok (.aload_n 0, 1) := by decide +kernel
theorem dX9_byDamp_168 : decode cX9_byDamp 168 = .ok (.iconst (-1), 1) := by decide +kernel
theorem dX9_byDamp_169 : decode cX9_byDamp 169 = .ok (.putfield 78, 3) := by decide +kernel
theorem dX9_byDamp_172 : decode cX9_byDamp 172 = .ok (.iload 4, 2) := by decide +kernel
theorem dX9_byDamp_174 : decode cX9_byDamp 174 = .ok (.ireturn, 1) := by decide +kernel
theorem dX9_gains_0 : decode cX9_gains 0 = .ok (.iload 4, 2) := by decide +kernel
theorem dX9_gains_2 : decode cX9_gains 2 = .ok (.ifCond .ne 5, 3) := by decide +kernel
theorem dX9_gains_5 : decode cX9_gains 5 = .ok (.iconst 2, 1) := by decide +kernel
theorem dX9_gains_6 : decode cX9_gains 6 = .ok (.ireturn, 1) := by decide +kernel
theorem dX9_gains_7 : decode cX9_gains 7 = .ok (.aload_n 0, 1) := by decide +kernel
theorem dX9_gains_8 : decode cX9_gains 8 = .ok (.iconst 0, 1) := by decide +kernel
theorem dX9_gains_9 : decode cX9_gains 9 = .ok (.iload_n 1, 1) := by decide +kernel
theorem dX9_gains_10 : decode cX9_gains 10 = .ok (.iload_n 3, 1) := by decide +kernel
theorem dX9_gains_11 : decode cX9_gains 11 = .ok (.invokevirtual 312, 3) := by decide +kernel
theorem dX9_gains_14 : decode cX9_gains 14 = .ok (.istore 6, 2) := by decide +kernel
theorem dX9_gains_16 : decode cX9_gains 16 = .ok (.aload_n 0, 1) := by decide +kernel
theorem dX9_gains_17 : decode cX9_gains 17 = .ok (.iconst 0, 1) := by decide +kernel
theorem dX9_gains_18 : decode cX9_gains 18 = .ok (.iload_n 2, 1) := by decide +kernel
theorem dX9_gains_19 : decode cX9_gains 19 = .ok (.iload_n 3, 1) := by decide +kernel
theorem dX9_gains_20 : decode cX9_gains 20 = .ok (.invokevirtual 312, 3) := by decide +kernel
theorem dX9_gains_23 : decode cX9_gains 23 = .ok (.istore 7, 2) := by decide +kernel
theorem dX9_gains_25 : decode cX9_gains 25 = .ok (.iload 5, 2) := by decide +kernel
theorem dX9_gains_27 : decode cX9_gains 27 = .ok (.iconst 1, 1) := by decide +kernel
theorem dX9_gains_28 : decode cX9_gains 28 = .ok (.if_icmp .ne 25, 3) := by decide +kernel
theorem dX9_gains_31 : decode cX9_gains 31 = .ok (.iload 7, 2) := by decide +kernel
theorem dX9_gains_33 : decode cX9_gains 33 = .ok (.iload 6, 2) := by decide +kernel
theorem dX9_gains_35 : decode cX9_gains 35 = .ok (.if_icmp .lt 15, 3) := by decide +kernel
theorem dX9_gains_38 : decode cX9_gains 38 = .ok (.iload 7, 2) := by decide +kernel
theorem dX9_gains_40 : decode cX9_gains 40 = .ok (.iload 6, 2) := by decide +kernel
theorem dX9_gains_42 : decode cX9_gains 42 = .ok (.if_icmp .ne 11, 3) := by decide +kernel
theorem dX9_gains_45 : decode cX9_gains 45 = .ok (.iload_n 2, 1) := by decide +kernel
theorem dX9_gains_46 : decode cX9_gains 46 = .ok (.iload_n 1, 1) := by decide +kernel
theorem dX9_gains_47 : decode cX9_gains 47 = .ok (.if_icmp .ge 6, 3) := by decide +kernel
theorem dX9_gains_50 : decode cX9_gains 50 = .ok (.bipush (-5), 2) := by decide +kernel
theorem dX9_gains_52 : decode cX9_gains 52 = .ok (.ireturn, 1) := by decide +kernel
theorem dX9_gains_53 : decode cX9_gains 53 = .ok (.aload_n 0, 1) := by decide +kernel
theorem dX9_gains_54 : decode cX9_gains 54 = .ok (.iconst 0, 1) := by decide +kernel
theorem dX9_gains_55 : decode cX9_gains 55 = .ok (.iload_n 1, 1) := by decide +kernel
theorem dX9_gains_56 : decode cX9_gains 56 = .ok (.iload_n 3, 1) := by decide +kernel
theorem dX9_gains_57 : decode cX9_gains 57 = .ok (.invokevirtual 388, 3) := by decide +kernel
theorem dX9_gains_60 : decode cX9_gains 60 = .ok (.ifCond .eq 13, 3) := by decide +kernel
theorem dX9_gains_63 : decode cX9_gains 63 = .ok (.bipush 20, 2) := by decide +kernel
theorem dX9_gains_65 : decode cX9_gains 65 = .ok (.iconst 2, 1) := by decide +kernel
theorem dX9_gains_66 : decode cX9_gains 66 = .ok (.iload 6, 2) := by decide +kernel
theorem dX9_gains_68 : decode cX9_gains 68 = .ok (.imul, 1) := by decide +kernel
theorem dX9_gains_69 : decode cX9_gains 69 = .ok (.isub, 1) := by decide +kernel
theorem dX9_gains_70 : decode cX9_gains 70 = .ok (.goto 5, 3) := by decide +kernel
theorem dX9_gains_73 : decode cX9_gains 73 = .ok (.bipush (-3), 2) := by decide +kernel
theorem dX9_gains_75 : decode cX9_gains 75 = .ok (.ireturn, 1) := by decide +kernel
theorem dX9_game_0 : decode cX9_game 0 = .ok (.aload_n 0, 1) := by decide +kernel
theorem dX9_game_1 : decode cX9_game 1 = .ok (.iconst 0, 1) := by decide +kernel
theorem dX9_game_2 : decode cX9_game 2 = .ok (.putfield 111, 3) := by decide +kernel
theorem dX9_game_5 : decode cX9_game 5 = .ok (.aload_n 0, 1) := by decide +kernel
theorem dX9_game_6 : decode cX9_game 6 = .ok (.iload_n 1, 1) := by decide +kernel
theorem dX9_game_7 : decode cX9_game 7 = .ok (.invokevirtual 379, 3) := by decide +kernel
theorem dX9_game_10 : decode cX9_game 10 = .ok (.ifCond .eq 47, 3) := by decide +kernel
theorem dX9_game_13 : decode cX9_game 13 = .ok (.aload_n 0, 1) := by decide +kernel
theorem dX9_game_14 : decode cX9_game 14 = .ok (.iload_n 2, 1) := by decide +kernel
theorem dX9_game_15 : decode cX9_game 15 = .ok (.invokevirtual 379, 3) := by decide +kernel
theorem dX9_game_18 : decode cX9_game 18 = .ok (.ifCond .eq 39, 3) := by decide +kernel
theorem dX9_game_21 : decode cX9_game 21 = .ok (.aload_n 0, 1) := by decide +kernel
theorem dX9_game_22 : decode cX9_game 22 = .ok (.iload_n 3, 1) := by decide +kernel
theorem dX9_game_23 : decode cX9_game 23 = .ok (.invokevirtual 367, 3) := by decide +kernel
theorem dX9_game_26 : decode cX9_game 26 = .ok (.ifCond .eq 31, 3) := by decide +kernel
theorem dX9_game_29 : decode cX9_game 29 = .ok (.aload_n 0, 1) := by decide +kernel
theorem dX9_game_30 : decode cX9_game 30 = .ok (.iload 4, 2) := by decide +kernel
theorem dX9_game_32 : decode cX9_game 32 = .ok (.iconst 1, 1) := by decide +kernel
theorem dX9_game_33 : decode cX9_game 33 = .ok (.invokevirtual 370, 3) := by decide +kernel
theorem dX9_game_36 : decode cX9_game 36 = .ok (.ifCond .eq 21, 3) := by decide +kernel
theorem dX9_game_39 : decode cX9_game 39 = .ok (.aload_n 0, 1) := by decide +kernel
theorem dX9_game_40 : decode cX9_game 40 = .ok (.iload_n 1, 1) := by decide +kernel
theorem dX9_game_41 : decode cX9_game 41 = .ok (.iload_n 2, 1) := by decide +kernel
theorem dX9_game_42 : decode cX9_game 42 = .ok (.if_icmp .eq 7, 3) := by decide +kernel
theorem dX9_game_45 : decode cX9_game 45 = .ok (.iconst 1, 1) := by decide +kernel
theorem dX9_game_46 : decode cX9_game 46 = .ok (.goto 4, 3) := by decide +kernel
theorem dX9_game_49 : decode cX9_game 49 = .ok (.iconst 0, 1) := by decide +kernel
theorem dX9_game_50 : decode cX9_game 50 = .ok (.iconst 2, 1) := by decide +kernel
theorem dX9_game_51 : decode cX9_game 51 = .ok (.invokevirtual 268, 3) := by decide +kernel
theorem dX9_game_54 : decode cX9_game 54 = .ok (.ifCond .ne 5, 3) := by decide +kernel
theorem dX9_game_57 : decode cX9_game 57 = .ok (.iconst 0, 1) := by decide +kernel
theorem dX9_game_58 : decode cX9_game 58 = .ok (.ireturn, 1) := by decide +kernel
theorem dX9_game_59 : decode cX9_game 59 = .ok (.iconst 0, 1) := by decide +kernel
theorem dX9_game_60 : decode cX9_game 60 = .ok (.istore 5, 2) := by decide +kernel
theorem dX9_game_62 : decode cX9_game 62 = .ok (.iconst (-1), 1) := by decide +kernel
theorem dX9_game_63 : decode cX9_game 63 = .ok (.istore 6, 2) := by decide +kernel
theorem dX9_game_65 : decode cX9_game 65 = .ok (.iconst 0, 1) := by decide +kernel
theorem dX9_game_66 : decode cX9_game 66 = .ok (.istore 7, 2) := by decide +kernel
theorem dX9_game_68 : decode cX9_game 68 = .ok (.iload 7, 2) := by decide +kernel
theorem dX9_game_70 : decode cX9_game 70 = .ok (.iconst 4, 1) := by decide +kernel
theorem dX9_game_71 : decode cX9_game 71 = .ok (.if_icmp .ge 97, 3) := by decide +kernel
theorem dX9_game_74 : decode cX9_game 74 = .ok (.iload 7, 2) := by decide +kernel
theorem dX9_game_76 : decode cX9_game 76 = .ok (.iconst 2, 1) := by decide +kernel
theorem dX9_game_77 : decode cX9_game 77 = .ok (.idiv, 1) := by decide +kernel
theorem dX9_game_78 : decode cX9_game 78 = .ok (.istore 8, 2) := by decide +kernel
theorem dX9_game_80 : decode cX9_game 80 = .ok (.iload 7, 2) := by decide +kernel
theorem dX9_game_82 : decode cX9_game 82 = .ok (.iconst 2, 1) := by decide +kernel
theorem dX9_game_83 : decode cX9_game 83 = .ok (.irem, 1) := by decide +kernel
theorem dX9_game_84 : decode cX9_game 84 = .ok (.istore 9, 2) := by decide +kernel
theorem dX9_game_86 : decode cX9_game 86 = .ok (.aload_n 0, 1) := by decide +kernel
theorem dX9_game_87 : decode cX9_game 87 = .ok (.iload_n 1, 1) := by decide +kernel
theorem dX9_game_88 : decode cX9_game 88 = .ok (.iload_n 2, 1) := by decide +kernel
theorem dX9_game_89 : decode cX9_game 89 = .ok (.iload_n 3, 1) := by decide +kernel
theorem dX9_game_90 : decode cX9_game 90 = .ok (.iconst 1, 1) := by decide +kernel
theorem dX9_game_91 : decode cX9_game 91 = .ok (.iload 8, 2) := by decide +kernel
theorem dX9_game_93 : decode cX9_game 93 = .ok (.isub, 1) := by decide +kernel
theorem dX9_game_94 : decode cX9_game 94 = .ok (.iload 9, 2) := by decide +kernel
theorem dX9_game_96 : decode cX9_game 96 = .ok (.invokevirtual 430, 3) := by decide +kernel
theorem dX9_game_99 : decode cX9_game 99 = .ok (.aload_n 0, 1) := by decide +kernel
theorem dX9_game_100 : decode cX9_game 100 = .ok (.iload_n 1, 1) := by decide +kernel
theorem dX9_game_101 : decode cX9_game 101 = .ok (.iload_n 2, 1) := by decide +kernel
theorem dX9_game_102 : decode cX9_game 102 = .ok (.iload_n 3, 1) := by decide +kernel
theorem dX9_game_103 : decode cX9_game 103 = .ok (.iload 8, 2) := by decide +kernel
theorem dX9_game_105 : decode cX9_game 105 = .ok (.iload 9, 2) := by decide +kernel
theorem dX9_game_107 : decode cX9_game 107 = .ok (.invokevirtual 430, 3) := by decide +kernel
theorem dX9_game_110 : decode cX9_game 110 = .ok (.if_icmp .gt 52, 3) := by decide +kernel
theorem dX9_game_113 : decode cX9_game 113 = .ok (.aload_n 0, 1) := by decide +kernel
theorem dX9_game_114 : decode cX9_game 114 = .ok (.iload_n 2, 1) := by decide +kernel
theorem dX9_game_115 : decode cX9_game 115 = .ok (.iload_n 1, 1) := by decide +kernel
theorem dX9_game_116 : decode cX9_game 116 = .ok (.iload_n 3, 1) := by decide +kernel
theorem dX9_game_117 : decode cX9_game 117 = .ok (.iconst 1, 1) := by decide +kernel
theorem dX9_game_118 : decode cX9_game 118 = .ok (.iload 9, 2) := by decide +kernel
theorem dX9_game_120 : decode cX9_game 120 = .ok (.isub, 1) := by decide +kernel
theorem dX9_game_121 : decode cX9_game 121 = .ok (.iload 8, 2) := by decide +kernel
theorem dX9_game_123 : decode cX9_game 123 = .ok (.invokevirtual 430, 3) := by decide +kernel
theorem dX9_game_126 : decode cX9_game 126 = .ok (.aload_n 0, 1) := by decide +kernel
theorem dX9_game_127 : decode cX9_game 127 = .ok (.iload_n 2, 1) := by decide +kernel
theorem dX9_game_128 : decode cX9_game 128 = .ok (.iload_n 1, 1) := by decide +kernel
theorem dX9_game_129 : decode cX9_game 129 = .ok (.iload_n 3, 1) := by decide +kernel
theorem dX9_game_130 : decode cX9_game 130 = .ok (.iload 9, 2) := by decide +kernel
theorem dX9_game_132 : decode cX9_game 132 = .ok (.iload 8, 2) := by decide +kernel
theorem dX9_game_134 : decode cX9_game 134 = .ok (.invokevirtual 430, 3) := by decide +kernel
theorem dX9_game_137 : decode cX9_game 137 = .ok (.if_icmp .le 6, 3) := by decide +kernel
theorem dX9_game_140 : decode cX9_game 140 = .ok (.goto 22, 3) := by decide +kernel
theorem dX9_game_143 : decode cX9_game 143 = .ok (.iinc 5 1, 3) := by decide +kernel
theorem dX9_game_146 : decode cX9_game 146 = .ok (.iload 6, 2) := by decide +kernel
theorem dX9_game_148 : decode cX9_game 148 = .ok (.iconst (-1), 1) := by decide +kernel
theorem dX9_game_149 : decode cX9_game 149 = .ok (.if_icmp .ne 13, 3) := by decide +kernel
theorem dX9_game_152 : decode cX9_game 152 = .ok (.bipush 10, 2) := by decide +kernel
theorem dX9_game_154 : decode cX9_game 154 = .ok (.iload 8, 2) := by decide +kernel
theorem dX9_game_156 : decode cX9_game 156 = .ok (.imul, 1) := by decide +kernel
theorem dX9_game_157 : decode cX9_game 157 = .ok (.iload 9, 2) := by decide +kernel
theorem dX9_game_159 : decode cX9_game 159 = .ok (.iadd, 1) := by decide +kernel
theorem dX9_game_160 : decode cX9_game 160 = .ok (.istore 6, 2) := by decide +kernel
theorem dX9_game_162 : decode cX9_game 162 = .ok (.iinc 7 1, 3) := by decide +kernel
theorem dX9_game_165 : decode cX9_game 165 = .ok (.goto (-97), 3) := by decide +kernel
theorem dX9_game_168 : decode cX9_game 168 = .ok (.iload 4, 2) := by decide +kernel
theorem dX9_game_170 : decode cX9_game 170 = .ok (.ifCond .ne 8, 3) := by decide +kernel
theorem dX9_game_173 : decode cX9_game 173 = .ok (.iload 5, 2) := by decide +kernel
theorem dX9_game_175 : decode cX9_game 175 = .ok (.goto 5, 3) := by decide +kernel
theorem dX9_game_178 : decode cX9_game 178 = .ok (.iload 6, 2) := by decide +kernel
theorem dX9_game_180 : decode cX9_game 180 = .ok (.ireturn, 1) := by decide +kernel
theorem dX9_draw_0 : decode cX9_draw 0 = .ok (.aload_n 0, 1) := by decide +kernel
theorem dX9_draw_1 : decode cX9_draw 1 = .ok (.aload_n 0, 1) := by decide +kernel
theorem dX9_draw_2 : decode cX9_draw 2 = .ok (.getfield 434, 3) := by decide +kernel
theorem dX9_draw_5 : decode cX9_draw 5 = .ok (.ldc_w 437, 3) := by decide +kernel
theorem dX9_draw_8 : decode cX9_draw 8 = .ok (.imul, 1) := by decide +kernel
theorem dX9_draw_9 : decode cX9_draw 9 = .ok (.sipush 12345, 3) := by decide +kernel
theorem dX9_draw_12 : decode cX9_draw 12 = .ok (.iadd, 1) := by decide +kernel
theorem dX9_draw_13 : decode cX9_draw 13 = .ok (.putfield 434, 3) := by decide +kernel
theorem dX9_draw_16 : decode cX9_draw 16 = .ok (.aload_n 0, 1) := by decide +kernel
theorem dX9_draw_17 : decode cX9_draw 17 = .ok (.getfield 434, 3) := by decide +kernel
theorem dX9_draw_20 : decode cX9_draw 20 = .ok (.bipush 16, 2) := by decide +kernel
theorem dX9_draw_22 : decode cX9_draw 22 = .ok (.ishr, 1) := by decide +kernel
theorem dX9_draw_23 : decode cX9_draw 23 = .ok (.sipush 32767, 3) := by decide +kernel
theorem dX9_draw_26 : decode cX9_draw 26 = .ok (.iand, 1) := by decide +kernel
theorem dX9_draw_27 : decode cX9_draw 27 = .ok (.iload_n 1, 1) := by decide +kernel
theorem dX9_draw_28 : decode cX9_draw 28 = .ok (.irem, 1) := by decide +kernel
theorem dX9_draw_29 : decode cX9_draw 29 = .ok (.ireturn, 1) := by decide +kernel
theorem dX9_happens_0 : decode cX9_happens 0 = .ok (.aload_n 0, 1) := by decide +kernel
theorem dX9_happens_1 : decode cX9_happens 1 = .ok (.aload_n 0, 1) := by decide +kernel
theorem dX9_happens_2 : decode cX9_happens 2 = .ok (.getfield 278, 3) := by decide +kernel
theorem dX9_happens_5 : decode cX9_happens 5 = .ok (.invokevirtual 438, 3) := by decide +kernel
theorem dX9_happens_8 : decode cX9_happens 8 = .ok (.istore_n 1, 1) := by decide +kernel
theorem dX9_happens_9 : decode cX9_happens 9 = .ok (.aload_n 0, 1) := by decide +kernel
theorem dX9_happens_10 : decode cX9_happens 10 = .ok (.aload_n 0, 1) := by decide +kernel
theorem dX9_happens_11 : decode cX9_happens 11 = .ok (.getfield 275, 3) := by decide +kernel
theorem dX9_happens_14 : decode cX9_happens 14 = .ok (.invokevirtual 438, 3) := by decide +kernel
theorem dX9_happens_17 : decode cX9_happens 17 = .ok (.istore_n 2, 1) := by decide +kernel
theorem dX9_happens_18 : decode cX9_happens 18 = .ok (.aload_n 0, 1) := by decide +kernel
theorem dX9_happens_19 : decode cX9_happens 19 = .ok (.bipush 43, 2) := by decide +kernel
theorem dX9_happens_21 : decode cX9_happens 21 = .ok (.iload_n 1, 1) := by decide +kernel
theorem dX9_happens_22 : decode cX9_happens 22 = .ok (.invokevirtual 339, 3) := by decide +kernel
theorem dX9_happens_25 : decode cX9_happens 25 = .ok (.iconst (-1), 1) := by decide +kernel
theorem dX9_happens_26 : decode cX9_happens 26 = .ok (.if_icmp .ne 37, 3) := by decide +kernel
theorem dX9_happens_29 : decode cX9_happens 29 = .ok (.aload_n 0, 1) := by decide +kernel
theorem dX9_happens_30 : decode cX9_happens 30 = .ok (.getfield 66, 3) := by decide +kernel
theorem dX9_happens_33 : decode cX9_happens 33 = .ok (.bipush 62, 2) := by decide +kernel
theorem dX9_happens_35 : decode cX9_happens 35 = .ok (.iload_n 2, 1) := by decide +kernel
theorem dX9_happens_36 : decode cX9_happens 36 = .ok (.iadd, 1) := by decide +kernel
theorem dX9_happens_37 : decode cX9_happens 37 = .ok (.iaload, 1) := by decide +kernel
theorem dX9_happens_38 : decode cX9_happens 38 = .ok (.iconst (-1), 1) := by decide +kernel
theorem dX9_happens_39 : decode cX9_happens 39 = .ok (.if_icmp .ne 24, 3) := by decide +kernel
theorem dX9_happens_42 : decode cX9_happens 42 = .ok (.aload_n 0, 1) := by decide +kernel
theorem dX9_happens_43 : decode cX9_happens 43 = .ok (.bipush 43, 2) := by decide +kernel
theorem dX9_happens_45 : decode cX9_happens 45 = .ok (.iload_n 1, 1) := by decide +kernel
theorem dX9_happens_46 : decode cX9_happens 46 = .ok (.iload_n 2, 1) := by decide +kernel
theorem dX9_happens_47 : decode cX9_happens 47 = .ok (.invokevirtual 388, 3) := by decide +kernel
theorem dX9_happens_50 : decode cX9_happens 50 = .ok (.ifCond .eq 13, 3) := by decide +kernel
theorem dX9_happens_53 : decode cX9_happens 53 = .ok (.aload_n 0, 1) := by decide +kernel
theorem dX9_happens_54 : decode cX9_happens 54 = .ok (.getfield 66, 3) := by decide +kernel
theorem dX9_happens_57 : decode cX9_happens 57 = .ok (.bipush 62, 2) := by decide +kernel
theorem dX9_happens_59 : decode cX9_happens 59 = .ok (.iload_n 2, 1) := by decide +kernel
theorem dX9_happens_60 : decode cX9_happens 60 = .ok (.iadd, 1) := by decide +kernel
theorem dX9_happens_61 : decode cX9_happens 61 = .ok (.iload_n 1, 1) := by decide +kernel
theorem dX9_happens_62 : decode cX9_happens 62 = .ok (.iastore, 1) := by decide +kernel
theorem dX9_happens_63 : decode cX9_happens 63 = .ok (.return_, 1) := by decide +kernel
theorem dX9_years_0 : decode cX9_years 0 = .ok (.aload_n 0, 1) := by decide +kernel
theorem dX9_years_1 : decode cX9_years 1 = .ok (.iconst 0, 1) := by decide +kernel
theorem dX9_years_2 : decode cX9_years 2 = .ok (.putfield 111, 3) := by decide +kernel
theorem dX9_years_5 : decode cX9_years 5 = .ok (.aload_n 0, 1) := by decide +kernel
theorem dX9_years_6 : decode cX9_years 6 = .ok (.iload_n 3, 1) := by decide +kernel
theorem dX9_years_7 : decode cX9_years 7 = .ok (.iconst 2, 1) := by decide +kernel
theorem dX9_years_8 : decode cX9_years 8 = .ok (.invokevirtual 370, 3) := by decide +kernel
theorem dX9_years_11 : decode cX9_years 11 = .ok (.ifCond .eq 13, 3) := by decide +kernel
theorem dX9_years_14 : decode cX9_years 14 = .ok (.aload_n 0, 1) := by decide +kernel
theorem dX9_years_15 : decode cX9_years 15 = .ok (.iload_n 2, 1) := by decide +kernel
theorem dX9_years_16 : decode cX9_years 16 = .ok (.iconst 0, 1) := by decide +kernel
theorem dX9_years_17 : decode cX9_years 17 = .ok (.iconst 2, 1) := by decide +kernel
theorem dX9_years_18 : decode cX9_years 18 = .ok (.invokevirtual 397, 3) := by decide +kernel
theorem dX9_years_21 : decode cX9_years 21 = .ok (.ifCond .ne 5, 3) := by decide +kernel
theorem dX9_years_24 : decode cX9_years 24 = .ok (.iconst 0, 1) := by decide +kernel
theorem dX9_years_25 : decode cX9_years 25 = .ok (.ireturn, 1) := by decide +kernel
theorem dX9_years_26 : decode cX9_years 26 = .ok (.aload_n 0, 1) := by decide +kernel
theorem dX9_years_27 : decode cX9_years 27 = .ok (.invokevirtual 391, 3) := by decide +kernel
theorem dX9_years_30 : decode cX9_years 30 = .ok (.aload_n 0, 1) := by decide +kernel
theorem dX9_years_31 : decode cX9_years 31 = .ok (.iload_n 1, 1) := by decide +kernel
theorem dX9_years_32 : decode cX9_years 32 = .ok (.putfield 434, 3) := by decide +kernel
theorem dX9_years_35 : decode cX9_years 35 = .ok (.iconst 0, 1) := by decide +kernel
theorem dX9_years_36 : decode cX9_years 36 = .ok (.istore 4, 2) := by decide +kernel
theorem dX9_years_38 : decode cX9_years 38 = .ok (.iload 4, 2) := by decide +kernel
theorem dX9_years_40 : decode cX9_years 40 = .ok (.iload_n 2, 1) := by decide +kernel
theorem dX9_years_41 : decode cX9_years 41 = .ok (.if_icmp .ge 43, 3) := by decide +kernel
theorem dX9_years_44 : decode cX9_years 44 = .ok (.aload_n 0, 1) := by decide +kernel
theorem dX9_years_45 : decode cX9_years 45 = .ok (.aload_n 0, 1) := by decide +kernel
theorem dX9_years_46 : decode cX9_years 46 = .ok (.bipush 10, 2) := by decide +kernel
theorem dX9_years_48 : decode cX9_years 48 = .ok (.invokevirtual 438, 3) := by decide +kernel
theorem dX9_years_51 : decode cX9_years 51 = .ok (.putfield 78, 3) := by decide +kernel
theorem dX9_years_54 : decode cX9_years 54 = .ok (.aload_n 0, 1) := by decide +kernel
theorem dX9_years_55 : decode cX9_years 55 = .ok (.getfield 278, 3) := by decide +kernel
theorem dX9_years_58 : decode cX9_years 58 = .ok (.ifCond .le 14, 3) := by decide +kernel
theorem dX9_years_61 : decode cX9_years 61 = .ok (.aload_n 0, 1) := by decide +kernel
theorem dX9_years_62 : decode cX9_years 62 = .ok (.getfield 275, 3) := by decide +kernel
theorem dX9_years_65 : decode cX9_years 65 = .ok (.ifCond .le 7, 3) := by decide +kernel
theorem dX9_years_68 : decode cX9_years 68 = .ok (.aload_n 0, 1) := by decide +kernel
theorem dX9_years_69 : decode cX9_years 69 = .ok (.invokevirtual 441, 3) := by decide +kernel
theorem dX9_years_72 : decode cX9_years 72 = .ok (.aload_n 0, 1) := by decide +kernel
theorem dX9_years_73 : decode cX9_years 73 = .ok (.bipush 43, 2) := by decide +kernel
theorem dX9_years_75 : decode cX9_years 75 = .ok (.invokevirtual 336, 3) := by decide +kernel
theorem dX9_years_78 : decode cX9_years 78 = .ok (.iinc 4 1, 3) := by decide +kernel
theorem dX9_years_81 : decode cX9_years 81 = .ok (.goto (-43), 3) := by decide +kernel
theorem dX9_years_84 : decode cX9_years 84 = .ok (.aload_n 0, 1) := by decide +kernel
theorem dX9_years_85 : decode cX9_years 85 = .ok (.iconst (-1), 1) := by decide +kernel
theorem dX9_years_86 : decode cX9_years 86 = .ok (.putfield 78, 3) := by decide +kernel
theorem dX9_years_89 : decode cX9_years 89 = .ok (.iload_n 3, 1) := by decide +kernel
theorem dX9_years_90 : decode cX9_years 90 = .ok (.ifCond .ne 16, 3) := by decide +kernel
theorem dX9_years_93 : decode cX9_years 93 = .ok (.aload_n 0, 1) := by decide +kernel
theorem dX9_years_94 : decode cX9_years 94 = .ok (.getfield 66, 3) := by decide +kernel
theorem dX9_years_97 : decode cX9_years 97 = .ok (.bipush 44, 2) := by decide +kernel
theorem dX9_years_99 : decode cX9_years 99 = .ok (.iaload, 1) := by decide +kernel
theorem dX9_years_100 : decode cX9_years 100 = .ok (.invokestatic 444, 3) := by decide +kernel
theorem dX9_years_103 : decode cX9_years 103 = .ok (.goto 26, 3) := by decide +kernel
theorem dX9_years_106 : decode cX9_years 106 = .ok (.iload_n 3, 1) := by decide +kernel
theorem dX9_years_107 : decode cX9_years 107 = .ok (.iconst 1, 1) := by decide +kernel
theorem dX9_years_108 : decode cX9_years 108 = .ok (.if_icmp .ne 12, 3) := by decide +kernel
theorem dX9_years_111 : decode cX9_years 111 = .ok (.aload_n 0, 1) := by decide +kernel
theorem dX9_years_112 : decode cX9_years 112 = .ok (.bipush 43, 2) := by decide +kernel
theorem dX9_years_114 : decode cX9_years 114 = .ok (.invokevirtual 355, 3) := by decide +kernel
theorem dX9_years_117 : decode cX9_years 117 = .ok (.goto 12, 3) := by decide +kernel
theorem dX9_years_120 : decode cX9_years 120 = .ok (.aload_n 0, 1) := by decide +kernel
theorem dX9_years_121 : decode cX9_years 121 = .ok (.bipush 43, 2) := by decide +kernel
theorem dX9_years_123 : decode cX9_years 123 = .ok (.invokevirtual 352, 3) := by decide +kernel
theorem dX9_years_126 : decode cX9_years 126 = .ok (.invokestatic 444, 3) := by decide +kernel
theorem dX9_years_129 : decode cX9_years 129 = .ok (.ireturn, 1) := by decide +kernel
theorem dX9_toGrow_0 : decode cX9_toGrow 0 = .ok (.aload_n 0, 1) := by decide +kernel
theorem dX9_toGrow_1 : decode cX9_toGrow 1 = .ok (.iconst 0, 1) := by decide +kernel
theorem dX9_toGrow_2 : decode cX9_toGrow 2 = .ok (.putfield 111, 3) := by decide +kernel
theorem dX9_toGrow_5 : decode cX9_toGrow 5 = .ok (.aload_n 0, 1) := by decide +kernel
theorem dX9_toGrow_6 : decode cX9_toGrow 6 = .ok (.iload_n 1, 1) := by decide +kernel
theorem dX9_toGrow_7 : decode cX9_toGrow 7 = .ok (.invokevirtual 379, 3) := by decide +kernel
theorem dX9_toGrow_10 : decode cX9_toGrow 10 = .ok (.ifCond .eq 11, 3) := by decide +kernel
theorem dX9_toGrow_13 : decode cX9_toGrow 13 = .ok (.aload_n 0, 1) := by decide +kernel
theorem dX9_toGrow_14 : decode cX9_toGrow 14 = .ok (.iload_n 2, 1) := by decide +kernel
theorem dX9_toGrow_15 : decode cX9_toGrow 15 = .ok (.invokevirtual 367, 3) := by decide +kernel
theorem dX9_toGrow_18 : decode cX9_toGrow 18 = .ok (.ifCond .ne 5, 3) := by decide +kernel
theorem dX9_toGrow_21 : decode cX9_toGrow 21 = .ok (.iconst 0, 1) := by decide +kernel
theorem dX9_toGrow_22 : decode cX9_toGrow 22 = .ok (.ireturn, 1) := by decide +kernel
theorem dX9_toGrow_23 : decode cX9_toGrow 23 = .ok (.aload_n 0, 1) := by decide +kernel
theorem dX9_toGrow_24 : decode cX9_toGrow 24 = .ok (.invokevirtual 391, 3) := by decide +kernel
theorem dX9_toGrow_27 : decode cX9_toGrow 27 = .ok (.iconst 0, 1) := by decide +kernel
theorem dX9_toGrow_28 : decode cX9_toGrow 28 = .ok (.istore_n 3, 1) := by decide +kernel
theorem dX9_toGrow_29 : decode cX9_toGrow 29 = .ok (.iload_n 3, 1) := by decide +kernel
theorem dX9_toGrow_30 : decode cX9_toGrow 30 = .ok (.bipush 40, 2) := by decide +kernel
theorem dX9_toGrow_32 : decode cX9_toGrow 32 = .ok (.if_icmp .gt 37, 3) := by decide +kernel
theorem dX9_toGrow_35 : decode cX9_toGrow 35 = .ok (.aload_n 0, 1) := by decide +kernel
theorem dX9_toGrow_36 : decode cX9_toGrow 36 = .ok (.getfield 66, 3) := by decide +kernel
theorem dX9_toGrow_39 : decode cX9_toGrow 39 = .ok (.bipush 70, 2) := by decide +kernel
theorem dX9_toGrow_41 : decode cX9_toGrow 41 = .ok (.iload_n 1, 1) := by decide +kernel
theorem dX9_toGrow_42 : decode cX9_toGrow 42 = .ok (.iadd, 1) := by decide +kernel
theorem dX9_toGrow_43 : decode cX9_toGrow 43 = .ok (.iaload, 1) := by decide +kernel
theorem dX9_toGrow_44 : decode cX9_toGrow 44 = .ok (.aload_n 0, 1) := by decide +kernel
theorem dX9_toGrow_45 : decode cX9_toGrow 45 = .ok (.getfield 66, 3) := by decide +kernel
theorem dX9_toGrow_48 : decode cX9_toGrow 48 = .ok (.iconst 3, 1) := by decide +kernel
theorem dX9_toGrow_49 : decode cX9_toGrow 49 = .ok (.iload_n 2, 1) := by decide +kernel
theorem dX9_toGrow_50 : decode cX9_toGrow 50 = .ok (.iadd, 1) := by decide +kernel
theorem dX9_toGrow_51 : decode cX9_toGrow 51 = .ok (.iaload, 1) := by decide +kernel
theorem dX9_toGrow_52 : decode cX9_toGrow 52 = .ok (.if_icmp .lt 5, 3) := by decide +kernel
theorem dX9_toGrow_55 : decode cX9_toGrow 55 = .ok (.iload_n 3, 1) := by decide +kernel
theorem dX9_toGrow_56 : decode cX9_toGrow 56 = .ok (.ireturn, 1) := by decide +kernel
theorem dX9_toGrow_57 : decode cX9_toGrow 57 = .ok (.aload_n 0, 1) := by decide +kernel
theorem dX9_toGrow_58 : decode cX9_toGrow 58 = .ok (.bipush 43, 2) := by decide +kernel
theorem dX9_toGrow_60 : decode cX9_toGrow 60 = .ok (.invokevirtual 336, 3) := by decide +kernel
theorem dX9_toGrow_63 : decode cX9_toGrow 63 = .ok (.iinc 3 1, 3) := by decide +kernel
theorem dX9_toGrow_66 : decode cX9_toGrow 66 = .ok (.goto (-37), 3) := by decide +kernel
theorem dX9_toGrow_69 : decode cX9_toGrow 69 = .ok (.iconst (-1), 1) := by decide +kernel
theorem dX9_toGrow_70 : decode cX9_toGrow 70 = .ok (.ireturn, 1) := by decide +kernel
theorem dX9_paid_0 : decode cX9_paid 0 = .ok (.aload_n 0, 1) := by decide +kernel
theorem dX9_paid_1 : decode cX9_paid 1 = .ok (.iconst 0, 1) := by decide +kernel
theorem dX9_paid_2 : decode cX9_paid 2 = .ok (.putfield 111, 3) := by decide +kernel
theorem dX9_paid_5 : decode cX9_paid 5 = .ok (.aload_n 0, 1) := by decide +kernel
theorem dX9_paid_6 : decode cX9_paid 6 = .ok (.iload_n 1, 1) := by decide +kernel
theorem dX9_paid_7 : decode cX9_paid 7 = .ok (.iconst 0, 1) := by decide +kernel
theorem dX9_paid_8 : decode cX9_paid 8 = .ok (.iconst 1, 1) := by decide +kernel
theorem dX9_paid_9 : decode cX9_paid 9 = .ok (.invokevirtual 397, 3) := by decide +kernel
theorem dX9_paid_12 : decode cX9_paid 12 = .ok (.ifCond .ne 5, 3) := by decide +kernel
theorem dX9_paid_15 : decode cX9_paid 15 = .ok (.iconst 0, 1) := by decide +kernel
theorem dX9_paid_16 : decode cX9_paid 16 = .ok (.ireturn, 1) := by decide +kernel
theorem dX9_paid_17 : decode cX9_paid 17 = .ok (.aload_n 0, 1) := by decide +kernel
theorem dX9_paid_18 : decode cX9_paid 18 = .ok (.iload_n 1, 1) := by decide +kernel
theorem dX9_paid_19 : decode cX9_paid 19 = .ok (.invokevirtual 400, 3) := by decide +kernel
theorem dX9_paid_22 : decode cX9_paid 22 = .ok (.aload_n 0, 1) := by decide +kernel
theorem dX9_paid_23 : decode cX9_paid 23 = .ok (.bipush 43, 2) := by decide +kernel
theorem dX9_paid_25 : decode cX9_paid 25 = .ok (.invokevirtual 355, 3) := by decide +kernel
theorem dX9_paid_28 : decode cX9_paid 28 = .ok (.aload_n 0, 1) := by decide +kernel
theorem dX9_paid_29 : decode cX9_paid 29 = .ok (.iconst 0, 1) := by decide +kernel
theorem dX9_paid_30 : decode cX9_paid 30 = .ok (.invokevirtual 355, 3) := by decide +kernel
theorem dX9_paid_33 : decode cX9_paid 33 = .ok (.isub, 1) := by decide +kernel
theorem dX9_paid_34 : decode cX9_paid 34 = .ok (.ireturn, 1) := by decide +kernel
theorem dX9_wornest_0 : decode cX9_wornest 0 = .ok (.aload_n 0, 1) := by decide +kernel
theorem dX9_wornest_1 : decode cX9_wornest 1 = .ok (.iconst 0, 1) := by decide +kernel
theorem dX9_wornest_2 : decode cX9_wornest 2 = .ok (.putfield 111, 3) := by decide +kernel
theorem dX9_wornest_5 : decode cX9_wornest 5 = .ok (.aload_n 0, 1) := by decide +kernel
theorem dX9_wornest_6 : decode cX9_wornest 6 = .ok (.iload_n 1, 1) := by decide +kernel
theorem dX9_wornest_7 : decode cX9_wornest 7 = .ok (.iconst 0, 1) := by decide +kernel
theorem dX9_wornest_8 : decode cX9_wornest 8 = .ok (.iconst 1, 1) := by decide +kernel
theorem dX9_wornest_9 : decode cX9_wornest 9 = .ok (.invokevirtual 397, 3) := by decide +kernel
theorem dX9_wornest_12 : decode cX9_wornest 12 = .ok (.ifCond .ne 5, 3) := by decide +kernel
theorem dX9_wornest_15 : decode cX9_wornest 15 = .ok (.iconst 0, 1) := by decide +kernel
theorem dX9_wornest_16 : decode cX9_wornest 16 = .ok (.ireturn, 1) := by decide +kernel
theorem dX9_wornest_17 : decode cX9_wornest 17 = .ok (.aload_n 0, 1) := by decide +kernel
theorem dX9_wornest_18 : decode cX9_wornest 18 = .ok (.iload_n 1, 1) := by decide +kernel
theorem dX9_wornest_19 : decode cX9_wornest 19 = .ok (.invokevirtual 400, 3) := by decide +kernel
theorem dX9_wornest_22 : decode cX9_wornest 22 = .ok (.iconst (-1), 1) := by decide +kernel
theorem dX9_wornest_23 : decode cX9_wornest 23 = .ok (.istore_n 2, 1) := by decide +kernel
theorem dX9_wornest_24 : decode cX9_wornest 24 = .ok (.iconst 0, 1) := by decide +kernel
theorem dX9_wornest_25 : decode cX9_wornest 25 = .ok (.istore_n 3, 1) := by decide +kernel
theorem dX9_wornest_26 : decode cX9_wornest 26 = .ok (.iload_n 3, 1) := by decide +kernel
theorem dX9_wornest_27 : decode cX9_wornest 27 = .ok (.aload_n 0, 1) := by decide +kernel
theorem dX9_wornest_28 : decode cX9_wornest 28 = .ok (.getfield 275, 3) := by decide +kernel
theorem dX9_wornest_31 : decode cX9_wornest 31 = .ok (.if_icmp .ge 37, 3) := by decide +kernel
theorem dX9_wornest_34 : decode cX9_wornest 34 = .ok (.iload_n 2, 1) := by decide +kernel
theorem dX9_wornest_35 : decode cX9_wornest 35 = .ok (.iconst (-1), 1) := by decide +kernel
theorem dX9_wornest_36 : decode cX9_wornest 36 = .ok (.if_icmp .eq 24, 3) := by decide +kernel
theorem dX9_wornest_39 : decode cX9_wornest 39 = .ok (.aload_n 0, 1) := by decide +kernel
theorem dX9_wornest_40 : decode cX9_wornest 40 = .ok (.getfield 66, 3) := by decide +kernel
theorem dX9_wornest_43 : decode cX9_wornest 43 = .ok (.bipush 54, 2) := by decide +kernel
theorem dX9_wornest_45 : decode cX9_wornest 45 = .ok (.iload_n 3, 1) := by decide +kernel
theorem dX9_wornest_46 : decode cX9_wornest 46 = .ok (.iadd, 1) := by decide +kernel
theorem dX9_wornest_47 : decode cX9_wornest 47 = .ok (.iaload, 1) := by decide +kernel
theorem dX9_wornest_48 : decode cX9_wornest 48 = .ok (.aload_n 0, 1) := by decide +kernel
theorem dX9_wornest_49 : decode cX9_wornest 49 = .ok (.getfield 66, 3) := by decide +kernel
theorem dX9_wornest_52 : decode cX9_wornest 52 = .ok (.bipush 54, 2) := by decide +kernel
theorem dX9_wornest_54 : decode cX9_wornest 54 = .ok (.iload_n 2, 1) := by decide +kernel
theorem dX9_wornest_55 : decode cX9_wornest 55 = .ok (.iadd, 1) := by decide +kernel
theorem dX9_wornest_56 : decode cX9_wornest 56 = .ok (.iaload, 1) := by decide +kernel
theorem dX9_wornest_57 : decode cX9_wornest 57 = .ok (.if_icmp .le 5, 3) := by decide +kernel
theorem dX9_wornest_60 : decode cX9_wornest 60 = .ok (.iload_n 3, 1) := by decide +kernel
theorem dX9_wornest_61 : decode cX9_wornest 61 = .ok (.istore_n 2, 1) := by decide +kernel
theorem dX9_wornest_62 : decode cX9_wornest 62 = .ok (.iinc 3 1, 3) := by decide +kernel
theorem dX9_wornest_65 : decode cX9_wornest 65 = .ok (.goto (-39), 3) := by decide +kernel
theorem dX9_wornest_68 : decode cX9_wornest 68 = .ok (.iload_n 2, 1) := by decide +kernel
theorem dX9_wornest_69 : decode cX9_wornest 69 = .ok (.ireturn, 1) := by decide +kernel
theorem dX9_dampest_0 : decode cX9_dampest 0 = .ok (.aload_n 0, 1) := by decide +kernel
theorem dX9_dampest_1 : decode cX9_dampest 1 = .ok (.iconst 0, 1) := by decide +kernel
theorem dX9_dampest_2 : decode cX9_dampest 2 = .ok (.putfield 111, 3) := by decide +kernel
theorem dX9_dampest_5 : decode cX9_dampest 5 = .ok (.aload_n 0, 1) := by decide +kernel
theorem dX9_dampest_6 : decode cX9_dampest 6 = .ok (.iload_n 1, 1) := by decide +kernel
theorem dX9_dampest_7 : decode cX9_dampest 7 = .ok (.iconst 1, 1) := by decide +kernel
theorem dX9_dampest_8 : decode cX9_dampest 8 = .ok (.iconst 1, 1) := by decide +kernel
theorem dX9_dampest_9 : decode cX9_dampest 9 = .ok (.invokevirtual 397, 3) := by decide +kernel
theorem dX9_dampest_12 : decode cX9_dampest 12 = .ok (.ifCond .ne 5, 3) := by decide +kernel
theorem dX9_dampest_15 : decode cX9_dampest 15 = .ok (.iconst 0, 1) := by decide +kernel
theorem dX9_dampest_16 : decode cX9_dampest 16 = .ok (.ireturn, 1) := by decide +kernel
theorem dX9_dampest_17 : decode cX9_dampest 17 = .ok (.iconst 0, 1) := by decide +kernel
theorem dX9_dampest_18 : decode cX9_dampest 18 = .ok (.istore_n 2, 1) := by decide +kernel
theorem dX9_dampest_19 : decode cX9_dampest 19 = .ok (.aload_n 0, 1) := by decide +kernel
theorem dX9_dampest_20 : decode cX9_dampest 20 = .ok (.iconst 0, 1) := by decide +kernel
theorem dX9_dampest_21 : decode cX9_dampest 21 = .ok (.invokevirtual 309, 3) := by decide +kernel
theorem dX9_dampest_24 : decode cX9_dampest 24 = .ok (.istore_n 3, 1) := by decide +kernel
theorem dX9_dampest_25 : decode cX9_dampest 25 = .ok (.iconst 1, 1) := by decide +kernel
theorem dX9_dampest_26 : decode cX9_dampest 26 = .ok (.istore 4, 2) := by decide +kernel
theorem dX9_dampest_28 : decode cX9_dampest 28 = .ok (.iload 4, 2) := by decide +kernel
theorem dX9_dampest_30 : decode cX9_dampest 30 = .ok (.iload_n 1, 1) := by decide +kernel
theorem dX9_dampest_31 : decode cX9_dampest 31 = .ok (.if_icmp .ge 39, 3) := by decide +kernel
theorem dX9_dampest_34 : decode cX9_dampest 34 = .ok (.aload_n 0, 1) := by decide +kernel
theorem dX9_dampest_35 : decode cX9_dampest 35 = .ok (.aload_n 0, 1) := by decide +kernel
theorem dX9_dampest_36 : decode cX9_dampest 36 = .ok (.getfield 66, 3) := by decide +kernel
theorem dX9_dampest_39 : decode cX9_dampest 39 = .ok (.iconst 0, 1) := by decide +kernel
theorem dX9_dampest_40 : decode cX9_dampest 40 = .ok (.iaload, 1) := by decide +kernel
theorem dX9_dampest_41 : decode cX9_dampest 41 = .ok (.iload 4, 2) := by decide +kernel
theorem dX9_dampest_43 : decode cX9_dampest 43 = .ok (.iadd, 1) := by decide +kernel
theorem dX9_dampest_44 : decode cX9_dampest 44 = .ok (.invokevirtual 302, 3) := by decide +kernel
theorem dX9_dampest_47 : decode cX9_dampest 47 = .ok (.istore 5, 2) := by decide +kernel
theorem dX9_dampest_49 : decode cX9_dampest 49 = .ok (.iload 5, 2) := by decide +kernel
theorem dX9_dampest_51 : decode cX9_dampest 51 = .ok (.iload_n 3, 1) := by decide +kernel
theorem dX9_dampest_52 : decode cX9_dampest 52 = .ok (.if_icmp .gt 6, 3) := by decide +kernel
theorem dX9_dampest_55 : decode cX9_dampest 55 = .ok (.goto 9, 3) := by decide +kernel
theorem dX9_dampest_58 : decode cX9_dampest 58 = .ok (.iload 4, 2) := by decide +kernel
theorem dX9_dampest_60 : decode cX9_dampest 60 = .ok (.istore_n 2, 1) := by decide +kernel
theorem dX9_dampest_61 : decode cX9_dampest 61 = .ok (.iload 5, 2) := by decide +kernel
theorem dX9_dampest_63 : decode cX9_dampest 63 = .ok (.istore_n 3, 1) := by decide +kernel
theorem dX9_dampest_64 : decode cX9_dampest 64 = .ok (.iinc 4 1, 3) := by decide +kernel
theorem dX9_dampest_67 : decode cX9_dampest 67 = .ok (.goto (-39), 3) := by decide +kernel
theorem dX9_dampest_70 : decode cX9_dampest 70 = .ok (.iload_n 2, 1) := by decide +kernel
theorem dX9_dampest_71 : decode cX9_dampest 71 = .ok (.ireturn, 1) := by decide +kernel
theorem dX9_kept_0 : decode cX9_kept 0 = .ok (.aload_n 0, 1) := by decide +kernel
theorem dX9_kept_1 : decode cX9_kept 1 = .ok (.iconst 0, 1) := by decide +kernel
theorem dX9_kept_2 : decode cX9_kept 2 = .ok (.putfield 111, 3) := by decide +kernel
theorem dX9_kept_5 : decode cX9_kept 5 = .ok (.aload_n 0, 1) := by decide +kernel
theorem dX9_kept_6 : decode cX9_kept 6 = .ok (.iload_n 1, 1) := by decide +kernel
theorem dX9_kept_7 : decode cX9_kept 7 = .ok (.iconst 0, 1) := by decide +kernel
theorem dX9_kept_8 : decode cX9_kept 8 = .ok (.iconst 1, 1) := by decide +kernel
theorem dX9_kept_9 : decode cX9_kept 9 = .ok (.invokevirtual 397, 3) := by decide +kernel
theorem dX9_kept_12 : decode cX9_kept 12 = .ok (.ifCond .ne 5, 3) := by decide +kernel
theorem dX9_kept_15 : decode cX9_kept 15 = .ok (.iconst 0, 1) := by decide +kernel
theorem dX9_kept_16 : decode cX9_kept 16 = .ok (.ireturn, 1) := by decide +kernel
theorem dX9_kept_17 : decode cX9_kept 17 = .ok (.aload_n 0, 1) := by decide +kernel
theorem dX9_kept_18 : decode cX9_kept 18 = .ok (.iload_n 1, 1) := by decide +kernel
theorem dX9_kept_19 : decode cX9_kept 19 = .ok (.invokevirtual 400, 3) := by decide +kernel
theorem dX9_kept_22 : decode cX9_kept 22 = .ok (.iconst 0, 1) := by decide +kernel
theorem dX9_kept_23 : decode cX9_kept 23 = .ok (.istore_n 2, 1) := by decide +kernel
theorem dX9_kept_24 : decode cX9_kept 24 = .ok (.iconst 0, 1) := by decide +kernel
theorem dX9_kept_25 : decode cX9_kept 25 = .ok (.istore_n 3, 1) := by decide +kernel
theorem dX9_kept_26 : decode cX9_kept 26 = .ok (.iload_n 3, 1) := by decide +kernel
theorem dX9_kept_27 : decode cX9_kept 27 = .ok (.aload_n 0, 1) := by decide +kernel
theorem dX9_kept_28 : decode cX9_kept 28 = .ok (.getfield 275, 3) := by decide +kernel
theorem dX9_kept_31 : decode cX9_kept 31 = .ok (.if_icmp .ge 61, 3) := by decide +kernel
theorem dX9_kept_34 : decode cX9_kept 34 = .ok (.iload_n 2, 1) := by decide +kernel
theorem dX9_kept_35 : decode cX9_kept 35 = .ok (.aload_n 0, 1) := by decide +kernel
theorem dX9_kept_36 : decode cX9_kept 36 = .ok (.getfield 66, 3) := by decide +kernel
theorem dX9_kept_39 : decode cX9_kept 39 = .ok (.bipush 19, 2) := by decide +kernel
theorem dX9_kept_41 : decode cX9_kept 41 = .ok (.iload_n 3, 1) := by decide +kernel
theorem dX9_kept_42 : decode cX9_kept 42 = .ok (.iadd, 1) := by decide +kernel
theorem dX9_kept_43 : decode cX9_kept 43 = .ok (.iaload, 1) := by decide +kernel
theorem dX9_kept_44 : decode cX9_kept 44 = .ok (.iconst (-1), 1) := by decide +kernel
theorem dX9_kept_45 : decode cX9_kept 45 = .ok (.if_icmp .eq 38, 3) := by decide +kernel
theorem dX9_kept_48 : decode cX9_kept 48 = .ok (.aload_n 0, 1) := by decide +kernel
theorem dX9_kept_49 : decode cX9_kept 49 = .ok (.getfield 66, 3) := by decide +kernel
theorem dX9_kept_52 : decode cX9_kept 52 = .ok (.bipush 62, 2) := by decide +kernel
theorem dX9_kept_54 : decode cX9_kept 54 = .ok (.iload_n 3, 1) := by decide +kernel
theorem dX9_kept_55 : decode cX9_kept 55 = .ok (.iadd, 1) := by decide +kernel
theorem dX9_kept_56 : decode cX9_kept 56 = .ok (.iaload, 1) := by decide +kernel
theorem dX9_kept_57 : decode cX9_kept 57 = .ok (.aload_n 0, 1) := by decide +kernel
theorem dX9_kept_58 : decode cX9_kept 58 = .ok (.getfield 66, 3) := by decide +kernel
theorem dX9_kept_61 : decode cX9_kept 61 = .ok (.bipush 19, 2) := by decide +kernel
theorem dX9_kept_63 : decode cX9_kept 63 = .ok (.iload_n 3, 1) := by decide +kernel
theorem dX9_kept_64 : decode cX9_kept 64 = .ok (.iadd, 1) := by decide +kernel
theorem dX9_kept_65 : decode cX9_kept 65 = .ok (.iaload, 1) := by decide +kernel
theorem dX9_kept_66 : decode cX9_kept 66 = .ok (.if_icmp .ne 17, 3) := by decide +kernel
theorem dX9_kept_69 : decode cX9_kept 69 = .ok (.iconst 1, 1) := by decide +kernel
theorem dX9_kept_70 : decode cX9_kept 70 = .ok (.aload_n 0, 1) := by decide +kernel
theorem dX9_kept_71 : decode cX9_kept 71 = .ok (.getfield 66, 3) := by decide +kernel
theorem dX9_kept_74 : decode cX9_kept 74 = .ok (.bipush 19, 2) := by decide +kernel
theorem dX9_kept_76 : decode cX9_kept 76 = .ok (.iload_n 3, 1) := by decide +kernel
theorem dX9_kept_77 : decode cX9_kept 77 = .ok (.iadd, 1) := by decide +kernel
theorem dX9_kept_78 : decode cX9_kept 78 = .ok (.iaload, 1) := by decide +kernel
theorem dX9_kept_79 : decode cX9_kept 79 = .ok (.ishl, 1) := by decide +kernel
theorem dX9_kept_80 : decode cX9_kept 80 = .ok (.goto 4, 3) := by decide +kernel
theorem dX9_kept_83 : decode cX9_kept 83 = .ok (.iconst 0, 1) := by decide +kernel
theorem dX9_kept_84 : decode cX9_kept 84 = .ok (.ior, 1) := by decide +kernel
theorem dX9_kept_85 : decode cX9_kept 85 = .ok (.istore_n 2, 1) := by decide +kernel
theorem dX9_kept_86 : decode cX9_kept 86 = .ok (.iinc 3 1, 3) := by decide +kernel
theorem dX9_kept_89 : decode cX9_kept 89 = .ok (.goto (-63), 3) := by decide +kernel
theorem dX9_kept_92 : decode cX9_kept 92 = .ok (.iload_n 2, 1) := by decide +kernel
theorem dX9_kept_93 : decode cX9_kept 93 = .ok (.ireturn, 1) := by decide +kernel
theorem dX9_sorest_0 : decode cX9_sorest 0 = .ok (.aload_n 0, 1) := by decide +kernel
theorem dX9_sorest_1 : decode cX9_sorest 1 = .ok (.iconst 0, 1) := by decide +kernel
theorem dX9_sorest_2 : decode cX9_sorest 2 = .ok (.putfield 111, 3) := by decide +kernel
theorem dX9_sorest_5 : decode cX9_sorest 5 = .ok (.aload_n 0, 1) := by decide +kernel
theorem dX9_sorest_6 : decode cX9_sorest 6 = .ok (.iload_n 1, 1) := by decide +kernel
theorem dX9_sorest_7 : decode cX9_sorest 7 = .ok (.iconst 0, 1) := by decide +kernel
theorem dX9_sorest_8 : decode cX9_sorest 8 = .ok (.iconst 1, 1) := by decide +kernel
theorem dX9_sorest_9 : decode cX9_sorest 9 = .ok (.invokevirtual 397, 3) := by decide +kernel
theorem dX9_sorest_12 : decode cX9_sorest 12 = .ok (.ifCond .ne 5, 3) := by decide +kernel
theorem dX9_sorest_15 : decode cX9_sorest 15 = .ok (.iconst 0, 1) := by decide +kernel
theorem dX9_sorest_16 : decode cX9_sorest 16 = .ok (.ireturn, 1) := by decide +kernel
theorem dX9_sorest_17 : decode cX9_sorest 17 = .ok (.aload_n 0, 1) := by decide +kernel
theorem dX9_sorest_18 : decode cX9_sorest 18 = .ok (.iload_n 1, 1) := by decide +kernel
theorem dX9_sorest_19 : decode cX9_sorest 19 = .ok (.invokevirtual 400, 3) := by decide +kernel
theorem dX9_sorest_22 : decode cX9_sorest 22 = .ok (.iconst (-1), 1) := by decide +kernel
theorem dX9_sorest_23 : decode cX9_sorest 23 = .ok (.istore_n 2, 1) := by decide +kernel
theorem dX9_sorest_24 : decode cX9_sorest 24 = .ok (.iconst 0, 1) := by decide +kernel
theorem dX9_sorest_25 : decode cX9_sorest 25 = .ok (.istore_n 3, 1) := by decide +kernel
theorem dX9_sorest_26 : decode cX9_sorest 26 = .ok (.iload_n 3, 1) := by decide +kernel
theorem dX9_sorest_27 : decode cX9_sorest 27 = .ok (.aload_n 0, 1) := by decide +kernel
theorem dX9_sorest_28 : decode cX9_sorest 28 = .ok (.getfield 278, 3) := by decide +kernel
theorem dX9_sorest_31 : decode cX9_sorest 31 = .ok (.if_icmp .ge 37, 3) := by decide +kernel
theorem dX9_sorest_34 : decode cX9_sorest 34 = .ok (.iload_n 2, 1) := by decide +kernel
theorem dX9_sorest_35 : decode cX9_sorest 35 = .ok (.iconst (-1), 1) := by decide +kernel
theorem dX9_sorest_36 : decode cX9_sorest 36 = .ok (.if_icmp .eq 24, 3) := by decide +kernel
theorem dX9_sorest_39 : decode cX9_sorest 39 = .ok (.aload_n 0, 1) := by decide +kernel
theorem dX9_sorest_40 : decode cX9_sorest 40 = .ok (.getfield 66, 3) := by decide +kernel
theorem dX9_sorest_43 : decode cX9_sorest 43 = .ok (.bipush 78, 2) := by decide +kernel
theorem dX9_sorest_45 : decode cX9_sorest 45 = .ok (.iload_n 3, 1) := by decide +kernel
theorem dX9_sorest_46 : decode cX9_sorest 46 = .ok (.iadd, 1) := by decide +kernel
theorem dX9_sorest_47 : decode cX9_sorest 47 = .ok (.iaload, 1) := by decide +kernel
theorem dX9_sorest_48 : decode cX9_sorest 48 = .ok (.aload_n 0, 1) := by decide +kernel
theorem dX9_sorest_49 : decode cX9_sorest 49 = .ok (.getfield 66, 3) := by decide +kernel
theorem dX9_sorest_52 : decode cX9_sorest 52 = .ok (.bipush 78, 2) := by decide +kernel
theorem dX9_sorest_54 : decode cX9_sorest 54 = .ok (.iload_n 2, 1) := by decide +kernel
theorem dX9_sorest_55 : decode cX9_sorest 55 = .ok (.iadd, 1) := by decide +kernel
theorem dX9_sorest_56 : decode cX9_sorest 56 = .ok (.iaload, 1) := by decide +kernel
theorem dX9_sorest_57 : decode cX9_sorest 57 = .ok (.if_icmp .le 5, 3) := by decide +kernel
theorem dX9_sorest_60 : decode cX9_sorest 60 = .ok (.iload_n 3, 1) := by decide +kernel
theorem dX9_sorest_61 : decode cX9_sorest 61 = .ok (.istore_n 2, 1) := by decide +kernel
theorem dX9_sorest_62 : decode cX9_sorest 62 = .ok (.iinc 3 1, 3) := by decide +kernel
theorem dX9_sorest_65 : decode cX9_sorest 65 = .ok (.goto (-39), 3) := by decide +kernel
theorem dX9_sorest_68 : decode cX9_sorest 68 = .ok (.iload_n 2, 1) := by decide +kernel
theorem dX9_sorest_69 : decode cX9_sorest 69 = .ok (.ireturn, 1) := by decide +kernel
theorem dX9_eased_0 : decode cX9_eased 0 = .ok (.aload_n 0, 1) := by decide +kernel
theorem dX9_eased_1 : decode cX9_eased 1 = .ok (.iconst 0, 1) := by decide +kernel
theorem dX9_eased_2 : decode cX9_eased 2 = .ok (.putfield 111, 3) := by decide +kernel
theorem dX9_eased_5 : decode cX9_eased 5 = .ok (.aload_n 0, 1) := by decide +kernel
theorem dX9_eased_6 : decode cX9_eased 6 = .ok (.iload_n 1, 1) := by decide +kernel
theorem dX9_eased_7 : decode cX9_eased 7 = .ok (.invokevirtual 379, 3) := by decide +kernel
theorem dX9_eased_10 : decode cX9_eased 10 = .ok (.ifCond .eq 21, 3) := by decide +kernel
theorem dX9_eased_13 : decode cX9_eased 13 = .ok (.aload_n 0, 1) := by decide +kernel
theorem dX9_eased_14 : decode cX9_eased 14 = .ok (.iload_n 2, 1) := by decide +kernel
theorem dX9_eased_15 : decode cX9_eased 15 = .ok (.invokevirtual 367, 3) := by decide +kernel
theorem dX9_eased_18 : decode cX9_eased 18 = .ok (.ifCond .eq 13, 3) := by decide +kernel
theorem dX9_eased_21 : decode cX9_eased 21 = .ok (.aload_n 0, 1) := by decide +kernel
theorem dX9_eased_22 : decode cX9_eased 22 = .ok (.iload_n 3, 1) := by decide +kernel
theorem dX9_eased_23 : decode cX9_eased 23 = .ok (.iconst 1, 1) := by decide +kernel
theorem dX9_eased_24 : decode cX9_eased 24 = .ok (.iconst 2, 1) := by decide +kernel
theorem dX9_eased_25 : decode cX9_eased 25 = .ok (.invokevirtual 397, 3) := by decide +kernel
theorem dX9_eased_28 : decode cX9_eased 28 = .ok (.ifCond .ne 5, 3) := by decide +kernel
theorem dX9_eased_31 : decode cX9_eased 31 = .ok (.iconst 0, 1) := by decide +kernel
theorem dX9_eased_32 : decode cX9_eased 32 = .ok (.ireturn, 1) := by decide +kernel
theorem dX9_eased_33 : decode cX9_eased 33 = .ok (.iconst (-1), 1) := by decide +kernel
theorem dX9_eased_34 : decode cX9_eased 34 = .ok (.istore 4, 2) := by decide +kernel
theorem dX9_eased_36 : decode cX9_eased 36 = .ok (.iconst (-1), 1) := by decide +kernel
theorem dX9_eased_37 : decode cX9_eased 37 = .ok (.istore 5, 2) := by decide +kernel
theorem dX9_eased_39 : decode cX9_eased 39 = .ok (.aload_n 0, 1) := by decide +kernel
theorem dX9_eased_40 : decode cX9_eased 40 = .ok (.invokevirtual 391, 3) := by decide +kernel
theorem dX9_eased_43 : decode cX9_eased 43 = .ok (.iconst 0, 1) := by decide +kernel
theorem dX9_eased_44 : decode cX9_eased 44 = .ok (.istore 6, 2) := by decide +kernel
theorem dX9_eased_46 : decode cX9_eased 46 = .ok (.iload 6, 2) := by decide +kernel
theorem dX9_eased_48 : decode cX9_eased 48 = .ok (.iload_n 3, 1) := by decide +kernel
theorem dX9_eased_49 : decode cX9_eased 49 = .ok (.if_icmp .ge 40, 3) := by decide +kernel
theorem dX9_eased_52 : decode cX9_eased 52 = .ok (.aload_n 0, 1) := by decide +kernel
theorem dX9_eased_53 : decode cX9_eased 53 = .ok (.bipush 43, 2) := by decide +kernel
theorem dX9_eased_55 : decode cX9_eased 55 = .ok (.iload_n 1, 1) := by decide +kernel
theorem dX9_eased_56 : decode cX9_eased 56 = .ok (.iload_n 2, 1) := by decide +kernel
theorem dX9_eased_57 : decode cX9_eased 57 = .ok (.invokevirtual 326, 3) := by decide +kernel
theorem dX9_eased_60 : decode cX9_eased 60 = .ok (.istore 7, 2) := by decide +kernel
theorem dX9_eased_62 : decode cX9_eased 62 = .ok (.iload 7, 2) := by decide +kernel
theorem dX9_eased_64 : decode cX9_eased 64 = .ok (.iload 5, 2) := by decide +kernel
theorem dX9_eased_66 : decode cX9_eased 66 = .ok (.if_icmp .le 11, 3) := by decide +kernel
theorem dX9_eased_69 : decode cX9_eased 69 = .ok (.iload 6, 2) := by decide +kernel
theorem dX9_eased_71 : decode cX9_eased 71 = .ok (.istore 4, 2) := by decide +kernel
theorem dX9_eased_73 : decode cX9_eased 73 = .ok (.iload 7, 2) := by decide +kernel
theorem dX9_eased_75 : decode cX9_eased 75 = .ok (.istore 5, 2) := by decide +kernel
theorem dX9_eased_77 : decode cX9_eased 77 = .ok (.aload_n 0, 1) := by decide +kernel
theorem dX9_eased_78 : decode cX9_eased 78 = .ok (.bipush 43, 2) := by decide +kernel
theorem dX9_eased_80 : decode cX9_eased 80 = .ok (.invokevirtual 336, 3) := by decide +kernel
theorem dX9_eased_83 : decode cX9_eased 83 = .ok (.iinc 6 1, 3) := by decide +kernel
theorem dX9_eased_86 : decode cX9_eased 86 = .ok (.goto (-40), 3) := by decide +kernel
theorem dX9_eased_89 : decode cX9_eased 89 = .ok (.iload 4, 2) := by decide +kernel
theorem dX9_eased_91 : decode cX9_eased 91 = .ok (.ireturn, 1) := by decide +kernel
theorem dX9_free_0 : decode cX9_free 0 = .ok (.aload_n 0, 1) := by decide +kernel
theorem dX9_free_1 : decode cX9_free 1 = .ok (.iconst 0, 1) := by decide +kernel
theorem dX9_free_2 : decode cX9_free 2 = .ok (.putfield 111, 3) := by decide +kernel
theorem dX9_free_5 : decode cX9_free 5 = .ok (.aload_n 0, 1) := by decide +kernel
theorem dX9_free_6 : decode cX9_free 6 = .ok (.iload_n 1, 1) := by decide +kernel
theorem dX9_free_7 : decode cX9_free 7 = .ok (.invokevirtual 379, 3) := by decide +kernel
theorem dX9_free_10 : decode cX9_free 10 = .ok (.ifCond .ne 5, 3) := by decide +kernel
theorem dX9_free_13 : decode cX9_free 13 = .ok (.iconst 0, 1) := by decide +kernel
theorem dX9_free_14 : decode cX9_free 14 = .ok (.ireturn, 1) := by decide +kernel
theorem dX9_free_15 : decode cX9_free 15 = .ok (.iconst (-1), 1) := by decide +kernel
theorem dX9_free_16 : decode cX9_free 16 = .ok (.istore_n 2, 1) := by decide +kernel
theorem dX9_free_17 : decode cX9_free 17 = .ok (.iconst 0, 1) := by decide +kernel
theorem dX9_free_18 : decode cX9_free 18 = .ok (.istore_n 3, 1) := by decide +kernel
theorem dX9_free_19 : decode cX9_free 19 = .ok (.iload_n 3, 1) := by decide +kernel
theorem dX9_free_20 : decode cX9_free 20 = .ok (.aload_n 0, 1) := by decide +kernel
theorem dX9_free_21 : decode cX9_free 21 = .ok (.getfield 275, 3) := by decide +kernel
theorem dX9_free_24 : decode cX9_free 24 = .ok (.if_icmp .ge 56, 3) := by decide +kernel
theorem dX9_free_27 : decode cX9_free 27 = .ok (.aload_n 0, 1) := by decide +kernel
theorem dX9_free_28 : decode cX9_free 28 = .ok (.getfield 66, 3) := by decide +kernel
theorem dX9_free_31 : decode cX9_free 31 = .ok (.bipush 19, 2) := by decide +kernel
theorem dX9_free_33 : decode cX9_free 33 = .ok (.iload_n 3, 1) := by decide +kernel
theorem dX9_free_34 : decode cX9_free 34 = .ok (.iadd, 1) := by decide +kernel
theorem dX9_free_35 : decode cX9_free 35 = .ok (.iaload, 1) := by decide +kernel
theorem dX9_free_36 : decode cX9_free 36 = .ok (.iconst (-1), 1) := by decide +kernel
theorem dX9_free_37 : decode cX9_free 37 = .ok (.if_icmp .ne 37, 3) := by decide +kernel
theorem dX9_free_40 : decode cX9_free 40 = .ok (.aload_n 0, 1) := by decide +kernel
theorem dX9_free_41 : decode cX9_free 41 = .ok (.iconst 0, 1) := by decide +kernel
theorem dX9_free_42 : decode cX9_free 42 = .ok (.iload_n 1, 1) := by decide +kernel
theorem dX9_free_43 : decode cX9_free 43 = .ok (.iload_n 3, 1) := by decide +kernel
theorem dX9_free_44 : decode cX9_free 44 = .ok (.invokevirtual 388, 3) := by decide +kernel
theorem dX9_free_47 : decode cX9_free 47 = .ok (.ifCond .eq 27, 3) := by decide +kernel
theorem dX9_free_50 : decode cX9_free 50 = .ok (.iload_n 2, 1) := by decide +kernel
theorem dX9_free_51 : decode cX9_free 51 = .ok (.iconst (-1), 1) := by decide +kernel
theorem dX9_free_52 : decode cX9_free 52 = .ok (.if_icmp .eq 20, 3) := by decide +kernel
theorem dX9_free_55 : decode cX9_free 55 = .ok (.aload_n 0, 1) := by decide +kernel
theorem dX9_free_56 : decode cX9_free 56 = .ok (.iconst 0, 1) := by decide +kernel
theorem dX9_free_57 : decode cX9_free 57 = .ok (.iload_n 1, 1) := by decide +kernel
theorem dX9_free_58 : decode cX9_free 58 = .ok (.iload_n 3, 1) := by decide +kernel
theorem dX9_free_59 : decode cX9_free 59 = .ok (.invokevirtual 312, 3) := by decide +kernel
theorem dX9_free_62 : decode cX9_free 62 = .ok (.aload_n 0, 1) := by decide +kernel
theorem dX9_free_63 : decode cX9_free 63 = .ok (.iconst 0, 1) := by decide +kernel
theorem dX9_free_64 : decode cX9_free 64 = .ok (.iload_n 1, 1) := by decide +kernel
theorem dX9_free_65 : decode cX9_free 65 = .ok (.iload_n 2, 1) := by decide +kernel
theorem dX9_free_66 : decode cX9_free 66 = .ok (.invokevirtual 312, 3) := by decide +kernel
theorem dX9_free_69 : decode cX9_free 69 = .ok (.if_icmp .ge 5, 3) := by decide +kernel
theorem dX9_free_72 : decode cX9_free 72 = .ok (.iload_n 3, 1) := by decide +kernel
theorem dX9_free_73 : decode cX9_free 73 = .ok (.istore_n 2, 1) := by decide +kernel
theorem dX9_free_74 : decode cX9_free 74 = .ok (.iinc 3 1, 3) := by decide +kernel
theorem dX9_free_77 : decode cX9_free 77 = .ok (.goto (-58), 3) := by decide +kernel
theorem dX9_free_80 : decode cX9_free 80 = .ok (.iload_n 2, 1) := by decide +kernel
theorem dX9_free_81 : decode cX9_free 81 = .ok (.ireturn, 1) := by decide +kernel
theorem dX9_larger_0 : decode cX9_larger 0 = .ok (.aload_n 0, 1) := by decide +kernel
theorem dX9_larger_1 : decode cX9_larger 1 = .ok (.iconst 0, 1) := by decide +kernel
theorem dX9_larger_2 : decode cX9_larger 2 = .ok (.putfield 111, 3) := by decide +kernel
theorem dX9_larger_5 : decode cX9_larger 5 = .ok (.aload_n 0, 1) := by decide +kernel
theorem dX9_larger_6 : decode cX9_larger 6 = .ok (.iload_n 1, 1) := by decide +kernel
theorem dX9_larger_7 : decode cX9_larger 7 = .ok (.invokevirtual 379, 3) := by decide +kernel
theorem dX9_larger_10 : decode cX9_larger 10 = .ok (.ifCond .ne 5, 3) := by decide +kernel
theorem dX9_larger_13 : decode cX9_larger 13 = .ok (.iconst 0, 1) := by decide +kernel
theorem dX9_larger_14 : decode cX9_larger 14 = .ok (.ireturn, 1) := by decide +kernel
theorem dX9_larger_15 : decode cX9_larger 15 = .ok (.iconst 0, 1) := by decide +kernel
theorem dX9_larger_16 : decode cX9_larger 16 = .ok (.istore_n 2, 1) := by decide +kernel
theorem dX9_larger_17 : decode cX9_larger 17 = .ok (.iconst 0, 1) := by decide +kernel
theorem dX9_larger_18 : decode cX9_larger 18 = .ok (.istore_n 3, 1) := by decide +kernel
theorem dX9_larger_19 : decode cX9_larger 19 = .ok (.iload_n 3, 1) := by decide +kernel
theorem dX9_larger_20 : decode cX9_larger 20 = .ok (.aload_n 0, 1) := by decide +kernel
theorem dX9_larger_21 : decode cX9_larger 21 = .ok (.getfield 278, 3) := by decide +kernel
theorem dX9_larger_24 : decode cX9_larger 24 = .ok (.if_icmp .ge 38, 3) := by decide +kernel
theorem dX9_larger_27 : decode cX9_larger 27 = .ok (.iload_n 2, 1) := by decide +kernel
theorem dX9_larger_28 : decode cX9_larger 28 = .ok (.aload_n 0, 1) := by decide +kernel
theorem dX9_larger_29 : decode cX9_larger 29 = .ok (.getfield 66, 3) := by decide +kernel
theorem dX9_larger_32 : decode cX9_larger 32 = .ok (.bipush 27, 2) := by decide +kernel
theorem dX9_larger_34 : decode cX9_larger 34 = .ok (.iload_n 3, 1) := by decide +kernel
theorem dX9_larger_35 : decode cX9_larger 35 = .ok (.iadd, 1) := by decide +kernel
theorem dX9_larger_36 : decode cX9_larger 36 = .ok (.iaload, 1) := by decide +kernel
theorem dX9_larger_37 : decode cX9_larger 37 = .ok (.aload_n 0, 1) := by decide +kernel
theorem dX9_larger_38 : decode cX9_larger 38 = .ok (.getfield 66, 3) := by decide +kernel
theorem dX9_larger_41 : decode cX9_larger 41 = .ok (.bipush 27, 2) := by decide +kernel
theorem dX9_larger_43 : decode cX9_larger 43 = .ok (.iload_n 1, 1) := by decide +kernel
theorem dX9_larger_44 : decode cX9_larger 44 = .ok (.iadd, 1) := by decide +kernel
theorem dX9_larger_45 : decode cX9_larger 45 = .ok (.iaload, 1) := by decide +kernel
theorem dX9_larger_46 : decode cX9_larger 46 = .ok (.if_icmp .le 7, 3) := by decide +kernel
theorem dX9_larger_49 : decode cX9_larger 49 = .ok (.iconst 1, 1) := by decide +kernel
theorem dX9_larger_50 : decode cX9_larger 50 = .ok (.goto 4, 3) := by decide +kernel
theorem dX9_larger_53 : decode cX9_larger 53 = .ok (.iconst 0, 1) := by decide +kernel
theorem dX9_larger_54 : decode cX9_larger 54 = .ok (.iadd, 1) := by decide +kernel
theorem dX9_larger_55 : decode cX9_larger 55 = .ok (.istore_n 2, 1) := by decide +kernel
theorem dX9_larger_56 : decode cX9_larger 56 = .ok (.iinc 3 1, 3) := by decide +kernel
theorem dX9_larger_59 : decode cX9_larger 59 = .ok (.goto (-40), 3) := by decide +kernel
theorem dX9_larger_62 : decode cX9_larger 62 = .ok (.iload_n 2, 1) := by decide +kernel
theorem dX9_larger_63 : decode cX9_larger 63 = .ok (.ireturn, 1) := by decide +kernel
theorem dX9_wide_0 : decode cX9_wide 0 = .ok (.aload_n 0, 1) := by decide +kernel
theorem dX9_wide_1 : decode cX9_wide 1 = .ok (.iconst 0, 1) := by decide +kernel
theorem dX9_wide_2 : decode cX9_wide 2 = .ok (.putfield 111, 3) := by decide +kernel
theorem dX9_wide_5 : decode cX9_wide 5 = .ok (.aload_n 0, 1) := by decide +kernel
theorem dX9_wide_6 : decode cX9_wide 6 = .ok (.iload_n 1, 1) := by decide +kernel
theorem dX9_wide_7 : decode cX9_wide 7 = .ok (.iconst 1, 1) := by decide +kernel
theorem dX9_wide_8 : decode cX9_wide 8 = .ok (.bipush 60, 2) := by decide +kernel
theorem dX9_wide_10 : decode cX9_wide 10 = .ok (.invokestatic 345, 3) := by decide +kernel
theorem dX9_wide_13 : decode cX9_wide 13 = .ok (.iconst 1, 1) := by decide +kernel
theorem dX9_wide_14 : decode cX9_wide 14 = .ok (.invokevirtual 268, 3) := by decide +kernel
theorem dX9_wide_17 : decode cX9_wide 17 = .ok (.ifCond .ne 5, 3) := by decide +kernel
theorem dX9_wide_20 : decode cX9_wide 20 = .ok (.iconst 0, 1) := by decide +kernel
theorem dX9_wide_21 : decode cX9_wide 21 = .ok (.ireturn, 1) := by decide +kernel
theorem dX9_wide_22 : decode cX9_wide 22 = .ok (.iconst 0, 1) := by decide +kernel
theorem dX9_wide_23 : decode cX9_wide 23 = .ok (.istore_n 2, 1) := by decide +kernel
theorem dX9_wide_24 : decode cX9_wide 24 = .ok (.iconst 0, 1) := by decide +kernel
theorem dX9_wide_25 : decode cX9_wide 25 = .ok (.istore_n 3, 1) := by decide +kernel
theorem dX9_wide_26 : decode cX9_wide 26 = .ok (.iload_n 3, 1) := by decide +kernel
theorem dX9_wide_27 : decode cX9_wide 27 = .ok (.aload_n 0, 1) := by decide +kernel
theorem dX9_wide_28 : decode cX9_wide 28 = .ok (.getfield 275, 3) := by decide +kernel
theorem dX9_wide_31 : decode cX9_wide 31 = .ok (.if_icmp .ge 40, 3) := by decide +kernel
theorem dX9_wide_34 : decode cX9_wide 34 = .ok (.iload_n 2, 1) := by decide +kernel
theorem dX9_wide_35 : decode cX9_wide 35 = .ok (.aload_n 0, 1) := by decide +kernel
theorem dX9_wide_36 : decode cX9_wide 36 = .ok (.iconst 0, 1) := by decide +kernel
theorem dX9_wide_37 : decode cX9_wide 37 = .ok (.iload_n 3, 1) := by decide +kernel
theorem dX9_wide_38 : decode cX9_wide 38 = .ok (.invokevirtual 322, 3) := by decide +kernel
theorem dX9_wide_41 : decode cX9_wide 41 = .ok (.ifCond .ne 21, 3) := by decide +kernel
theorem dX9_wide_44 : decode cX9_wide 44 = .ok (.aload_n 0, 1) := by decide +kernel
theorem dX9_wide_45 : decode cX9_wide 45 = .ok (.getfield 66, 3) := by decide +kernel
theorem dX9_wide_48 : decode cX9_wide 48 = .ok (.iconst 3, 1) := by decide +kernel
theorem dX9_wide_49 : decode cX9_wide 49 = .ok (.iload_n 3, 1) := by decide +kernel
theorem dX9_wide_50 : decode cX9_wide 50 = .ok (.iadd, 1) := by decide +kernel
theorem dX9_wide_51 : decode cX9_wide 51 = .ok (.iaload, 1) := by decide +kernel
theorem dX9_wide_52 : decode cX9_wide 52 = .ok (.iload_n 1, 1) := by decide +kernel
theorem dX9_wide_53 : decode cX9_wide 53 = .ok (.if_icmp .lt 9, 3) := by decide +kernel
theorem dX9_wide_56 : decode cX9_wide 56 = .ok (.iconst 1, 1) := by decide +kernel
theorem dX9_wide_57 : decode cX9_wide 57 = .ok (.iload_n 3, 1) := by decide +kernel
theorem dX9_wide_58 : decode cX9_wide 58 = .ok (.ishl, 1) := by decide +kernel
theorem dX9_wide_59 : decode cX9_wide 59 = .ok (.goto 4, 3) := by decide +kernel
theorem dX9_wide_62 : decode cX9_wide 62 = .ok (.iconst 0, 1) := by decide +kernel
theorem dX9_wide_63 : decode cX9_wide 63 = .ok (.ior, 1) := by decide +kernel
theorem dX9_wide_64 : decode cX9_wide 64 = .ok (.istore_n 2, 1) := by decide +kernel
theorem dX9_wide_65 : decode cX9_wide 65 = .ok (.iinc 3 1, 3) := by decide +kernel
theorem dX9_wide_68 : decode cX9_wide 68 = .ok (.goto (-42), 3) := by decide +kernel
theorem dX9_wide_71 : decode cX9_wide 71 = .ok (.iload_n 2, 1) := by decide +kernel
theorem dX9_wide_72 : decode cX9_wide 72 = .ok (.ireturn, 1) := by decide +kernel
theorem dX9_endures_0 : decode cX9_endures 0 = .ok (.aload_n 0, 1) := by decide +kernel
theorem dX9_endures_1 : decode cX9_endures 1 = .ok (.iconst 0, 1) := by decide +kernel
theorem dX9_endures_2 : decode cX9_endures 2 = .ok (.putfield 111, 3) := by decide +kernel
theorem dX9_endures_5 : decode cX9_endures 5 = .ok (.aload_n 0, 1) := by decide +kernel
theorem dX9_endures_6 : decode cX9_endures 6 = .ok (.iload_n 1, 1) := by decide +kernel
theorem dX9_endures_7 : decode cX9_endures 7 = .ok (.invokevirtual 379, 3) := by decide +kernel
theorem dX9_endures_10 : decode cX9_endures 10 = .ok (.ifCond .eq 11, 3) := by decide +kernel
theorem dX9_endures_13 : decode cX9_endures 13 = .ok (.aload_n 0, 1) := by decide +kernel
theorem dX9_endures_14 : decode cX9_endures 14 = .ok (.iload_n 2, 1) := by decide +kernel
theorem dX9_endures_15 : decode cX9_endures 15 = .ok (.invokevirtual 367, 3) := by decide +kernel
theorem dX9_endures_18 : decode cX9_endures 18 = .ok (.ifCond .ne 5, 3) := by decide +kernel
theorem dX9_endures_21 : decode cX9_endures 21 = .ok (.iconst 0, 1) := by decide +kernel
theorem dX9_endures_22 : decode cX9_endures 22 = .ok (.ireturn, 1) := by decide +kernel
theorem dX9_endures_23 : decode cX9_endures 23 = .ok (.aload_n 0, 1) := by decide +kernel
theorem dX9_endures_24 : decode cX9_endures 24 = .ok (.iconst 0, 1) := by decide +kernel
theorem dX9_endures_25 : decode cX9_endures 25 = .ok (.iload_n 2, 1) := by decide +kernel
theorem dX9_endures_26 : decode cX9_endures 26 = .ok (.invokevirtual 322, 3) := by decide +kernel
theorem dX9_endures_29 : decode cX9_endures 29 = .ok (.ifCond .eq 5, 3) := by decide +kernel
theorem dX9_endures_32 : decode cX9_endures 32 = .ok (.iconst (-1), 1) := by decide +kernel
theorem dX9_endures_33 : decode cX9_endures 33 = .ok (.ireturn, 1) := by decide +kernel
theorem dX9_endures_34 : decode cX9_endures 34 = .ok (.aload_n 0, 1) := by decide +kernel
theorem dX9_endures_35 : decode cX9_endures 35 = .ok (.invokevirtual 391, 3) := by decide +kernel
theorem dX9_endures_38 : decode cX9_endures 38 = .ok (.aload_n 0, 1) := by decide +kernel
theorem dX9_endures_39 : decode cX9_endures 39 = .ok (.iconst 0, 1) := by decide +kernel
theorem dX9_endures_40 : decode cX9_endures 40 = .ok (.iload_n 1, 1) := by decide +kernel
theorem dX9_endures_41 : decode cX9_endures 41 = .ok (.invokevirtual 339, 3) := by decide +kernel
theorem dX9_endures_44 : decode cX9_endures 44 = .ok (.istore_n 3, 1) := by decide +kernel
theorem dX9_endures_45 : decode cX9_endures 45 = .ok (.iload_n 3, 1) := by decide +kernel
theorem dX9_endures_46 : decode cX9_endures 46 = .ok (.iconst (-1), 1) := by decide +kernel
theorem dX9_endures_47 : decode cX9_endures 47 = .ok (.if_icmp .eq 13, 3) := by decide +kernel
theorem dX9_endures_50 : decode cX9_endures 50 = .ok (.aload_n 0, 1) := by decide +kernel
theorem dX9_endures_51 : decode cX9_endures 51 = .ok (.getfield 66, 3) := by decide +kernel
theorem dX9_endures_54 : decode cX9_endures 54 = .ok (.bipush 62, 2) := by decide +kernel
theorem dX9_endures_56 : decode cX9_endures 56 = .ok (.iload_n 3, 1) := by decide +kernel
theorem dX9_endures_57 : decode cX9_endures 57 = .ok (.iadd, 1) := by decide +kernel
theorem dX9_endures_58 : decode cX9_endures 58 = .ok (.iconst (-1), 1) := by decide +kernel
theorem dX9_endures_59 : decode cX9_endures 59 = .ok (.iastore, 1) := by decide +kernel
