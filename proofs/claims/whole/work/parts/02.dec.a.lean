set_option maxRecDepth 20000 in
theorem dX0_init_0 : decode cX0_init 0 = .ok (.aload_n 0, 1) := by decide +kernel
set_option maxRecDepth 20000 in
theorem dX0_init_1 : decode cX0_init 1 = .ok (.invokespecial 3, 3) := by decide +kernel
set_option maxRecDepth 20000 in
theorem dX0_init_4 : decode cX0_init 4 = .ok (.aload_n 0, 1) := by decide +kernel
set_option maxRecDepth 20000 in
theorem dX0_init_5 : decode cX0_init 5 = .ok (.sipush 128, 3) := by decide +kernel
set_option maxRecDepth 20000 in
theorem dX0_init_8 : decode cX0_init 8 = .ok (.newarray .int, 2) := by decide +kernel
set_option maxRecDepth 20000 in
theorem dX0_init_10 : decode cX0_init 10 = .ok (.putfield 9, 3) := by decide +kernel
set_option maxRecDepth 20000 in
theorem dX0_init_13 : decode cX0_init 13 = .ok (.aload_n 0, 1) := by decide +kernel
set_option maxRecDepth 20000 in
theorem dX0_init_14 : decode cX0_init 14 = .ok (.sipush 128, 3) := by decide +kernel
set_option maxRecDepth 20000 in
theorem dX0_init_17 : decode cX0_init 17 = .ok (.newarray .int, 2) := by decide +kernel
set_option maxRecDepth 20000 in
theorem dX0_init_19 : decode cX0_init 19 = .ok (.putfield 15, 3) := by decide +kernel
set_option maxRecDepth 20000 in
theorem dX0_init_22 : decode cX0_init 22 = .ok (.return_, 1) := by decide +kernel
set_option maxRecDepth 20000 in
theorem dX0_findInto_0 : decode cX0_findInto 0 = .ok (.iconst 1, 1) := by decide +kernel
set_option maxRecDepth 20000 in
theorem dX0_findInto_1 : decode cX0_findInto 1 = .ok (.aload_n 2, 1) := by decide +kernel
set_option maxRecDepth 20000 in
theorem dX0_findInto_2 : decode cX0_findInto 2 = .ok (.getfield 18, 3) := by decide +kernel
set_option maxRecDepth 20000 in
theorem dX0_findInto_5 : decode cX0_findInto 5 = .ok (.ishl, 1) := by decide +kernel
set_option maxRecDepth 20000 in
theorem dX0_findInto_6 : decode cX0_findInto 6 = .ok (.iconst 1, 1) := by decide +kernel
set_option maxRecDepth 20000 in
theorem dX0_findInto_7 : decode cX0_findInto 7 = .ok (.isub, 1) := by decide +kernel
set_option maxRecDepth 20000 in
theorem dX0_findInto_8 : decode cX0_findInto 8 = .ok (.istore_n 3, 1) := by decide +kernel
set_option maxRecDepth 20000 in
theorem dX0_findInto_9 : decode cX0_findInto 9 = .ok (.iconst 1, 1) := by decide +kernel
set_option maxRecDepth 20000 in
theorem dX0_findInto_10 : decode cX0_findInto 10 = .ok (.istore 4, 2) := by decide +kernel
set_option maxRecDepth 20000 in
theorem dX0_findInto_12 : decode cX0_findInto 12 = .ok (.iload 4, 2) := by decide +kernel
set_option maxRecDepth 20000 in
theorem dX0_findInto_14 : decode cX0_findInto 14 = .ok (.iload_n 3, 1) := by decide +kernel
set_option maxRecDepth 20000 in
theorem dX0_findInto_15 : decode cX0_findInto 15 = .ok (.if_icmp .gt 16, 3) := by decide +kernel
set_option maxRecDepth 20000 in
theorem dX0_findInto_18 : decode cX0_findInto 18 = .ok (.aload_n 0, 1) := by decide +kernel
set_option maxRecDepth 20000 in
theorem dX0_findInto_19 : decode cX0_findInto 19 = .ok (.aload_n 2, 1) := by decide +kernel
set_option maxRecDepth 20000 in
theorem dX0_findInto_20 : decode cX0_findInto 20 = .ok (.iload 4, 2) := by decide +kernel
set_option maxRecDepth 20000 in
theorem dX0_findInto_22 : decode cX0_findInto 22 = .ok (.invokevirtual 24, 3) := by decide +kernel
set_option maxRecDepth 20000 in
theorem dX0_findInto_25 : decode cX0_findInto 25 = .ok (.iinc 4 1, 3) := by decide +kernel
set_option maxRecDepth 20000 in
theorem dX0_findInto_28 : decode cX0_findInto 28 = .ok (.goto (-16), 3) := by decide +kernel
set_option maxRecDepth 20000 in
theorem dX0_findInto_31 : decode cX0_findInto 31 = .ok (.iload_n 3, 1) := by decide +kernel
set_option maxRecDepth 20000 in
theorem dX0_findInto_32 : decode cX0_findInto 32 = .ok (.istore 4, 2) := by decide +kernel
set_option maxRecDepth 20000 in
theorem dX0_findInto_34 : decode cX0_findInto 34 = .ok (.iconst 0, 1) := by decide +kernel
set_option maxRecDepth 20000 in
theorem dX0_findInto_35 : decode cX0_findInto 35 = .ok (.istore 5, 2) := by decide +kernel
set_option maxRecDepth 20000 in
theorem dX0_findInto_37 : decode cX0_findInto 37 = .ok (.iload 5, 2) := by decide +kernel
set_option maxRecDepth 20000 in
theorem dX0_findInto_39 : decode cX0_findInto 39 = .ok (.aload_n 2, 1) := by decide +kernel
set_option maxRecDepth 20000 in
theorem dX0_findInto_40 : decode cX0_findInto 40 = .ok (.getfield 18, 3) := by decide +kernel
set_option maxRecDepth 20000 in
theorem dX0_findInto_43 : decode cX0_findInto 43 = .ok (.if_icmp .ge 33, 3) := by decide +kernel
set_option maxRecDepth 20000 in
theorem dX0_findInto_46 : decode cX0_findInto 46 = .ok (.aload_n 1, 1) := by decide +kernel
set_option maxRecDepth 20000 in
theorem dX0_findInto_47 : decode cX0_findInto 47 = .ok (.iload 5, 2) := by decide +kernel
set_option maxRecDepth 20000 in
theorem dX0_findInto_49 : decode cX0_findInto 49 = .ok (.aload_n 0, 1) := by decide +kernel
set_option maxRecDepth 20000 in
theorem dX0_findInto_50 : decode cX0_findInto 50 = .ok (.getfield 15, 3) := by decide +kernel
set_option maxRecDepth 20000 in
theorem dX0_findInto_53 : decode cX0_findInto 53 = .ok (.iload 4, 2) := by decide +kernel
set_option maxRecDepth 20000 in
theorem dX0_findInto_55 : decode cX0_findInto 55 = .ok (.iaload, 1) := by decide +kernel
set_option maxRecDepth 20000 in
theorem dX0_findInto_56 : decode cX0_findInto 56 = .ok (.iastore, 1) := by decide +kernel
set_option maxRecDepth 20000 in
theorem dX0_findInto_57 : decode cX0_findInto 57 = .ok (.iload 4, 2) := by decide +kernel
set_option maxRecDepth 20000 in
theorem dX0_findInto_59 : decode cX0_findInto 59 = .ok (.iconst 1, 1) := by decide +kernel
set_option maxRecDepth 20000 in
theorem dX0_findInto_60 : decode cX0_findInto 60 = .ok (.aload_n 1, 1) := by decide +kernel
set_option maxRecDepth 20000 in
theorem dX0_findInto_61 : decode cX0_findInto 61 = .ok (.iload 5, 2) := by decide +kernel
set_option maxRecDepth 20000 in
theorem dX0_findInto_63 : decode cX0_findInto 63 = .ok (.iaload, 1) := by decide +kernel
set_option maxRecDepth 20000 in
theorem dX0_findInto_64 : decode cX0_findInto 64 = .ok (.ishl, 1) := by decide +kernel
set_option maxRecDepth 20000 in
theorem dX0_findInto_65 : decode cX0_findInto 65 = .ok (.iconst (-1), 1) := by decide +kernel
set_option maxRecDepth 20000 in
theorem dX0_findInto_66 : decode cX0_findInto 66 = .ok (.ixor, 1) := by decide +kernel
set_option maxRecDepth 20000 in
theorem dX0_findInto_67 : decode cX0_findInto 67 = .ok (.iand, 1) := by decide +kernel
set_option maxRecDepth 20000 in
theorem dX0_findInto_68 : decode cX0_findInto 68 = .ok (.istore 4, 2) := by decide +kernel
set_option maxRecDepth 20000 in
theorem dX0_findInto_70 : decode cX0_findInto 70 = .ok (.iinc 5 1, 3) := by decide +kernel
set_option maxRecDepth 20000 in
theorem dX0_findInto_73 : decode cX0_findInto 73 = .ok (.goto (-36), 3) := by decide +kernel
set_option maxRecDepth 20000 in
theorem dX0_findInto_76 : decode cX0_findInto 76 = .ok (.aload_n 0, 1) := by decide +kernel
set_option maxRecDepth 20000 in
theorem dX0_findInto_77 : decode cX0_findInto 77 = .ok (.getfield 9, 3) := by decide +kernel
set_option maxRecDepth 20000 in
theorem dX0_findInto_80 : decode cX0_findInto 80 = .ok (.iload_n 3, 1) := by decide +kernel
set_option maxRecDepth 20000 in
theorem dX0_findInto_81 : decode cX0_findInto 81 = .ok (.iaload, 1) := by decide +kernel
set_option maxRecDepth 20000 in
theorem dX0_findInto_82 : decode cX0_findInto 82 = .ok (.ireturn, 1) := by decide +kernel
set_option maxRecDepth 20000 in
theorem dX0_findFor_0 : decode cX0_findFor 0 = .ok (.aload_n 0, 1) := by decide +kernel
set_option maxRecDepth 20000 in
theorem dX0_findFor_1 : decode cX0_findFor 1 = .ok (.getfield 9, 3) := by decide +kernel
set_option maxRecDepth 20000 in
theorem dX0_findFor_4 : decode cX0_findFor 4 = .ok (.iload_n 2, 1) := by decide +kernel
set_option maxRecDepth 20000 in
theorem dX0_findFor_5 : decode cX0_findFor 5 = .ok (.iconst (-1), 1) := by decide +kernel
set_option maxRecDepth 20000 in
theorem dX0_findFor_6 : decode cX0_findFor 6 = .ok (.iastore, 1) := by decide +kernel
set_option maxRecDepth 20000 in
theorem dX0_findFor_7 : decode cX0_findFor 7 = .ok (.iconst 0, 1) := by decide +kernel
set_option maxRecDepth 20000 in
theorem dX0_findFor_8 : decode cX0_findFor 8 = .ok (.istore_n 3, 1) := by decide +kernel
set_option maxRecDepth 20000 in
theorem dX0_findFor_9 : decode cX0_findFor 9 = .ok (.iload_n 3, 1) := by decide +kernel
set_option maxRecDepth 20000 in
theorem dX0_findFor_10 : decode cX0_findFor 10 = .ok (.aload_n 1, 1) := by decide +kernel
set_option maxRecDepth 20000 in
theorem dX0_findFor_11 : decode cX0_findFor 11 = .ok (.getfield 18, 3) := by decide +kernel
set_option maxRecDepth 20000 in
theorem dX0_findFor_14 : decode cX0_findFor 14 = .ok (.if_icmp .ge 77, 3) := by decide +kernel
set_option maxRecDepth 20000 in
theorem dX0_findFor_17 : decode cX0_findFor 17 = .ok (.iload_n 2, 1) := by decide +kernel
set_option maxRecDepth 20000 in
theorem dX0_findFor_18 : decode cX0_findFor 18 = .ok (.iload_n 3, 1) := by decide +kernel
set_option maxRecDepth 20000 in
theorem dX0_findFor_19 : decode cX0_findFor 19 = .ok (.ishr, 1) := by decide +kernel
set_option maxRecDepth 20000 in
theorem dX0_findFor_20 : decode cX0_findFor 20 = .ok (.iconst 1, 1) := by decide +kernel
set_option maxRecDepth 20000 in
theorem dX0_findFor_21 : decode cX0_findFor 21 = .ok (.iand, 1) := by decide +kernel
set_option maxRecDepth 20000 in
theorem dX0_findFor_22 : decode cX0_findFor 22 = .ok (.ifCond .eq 63, 3) := by decide +kernel
set_option maxRecDepth 20000 in
theorem dX0_findFor_25 : decode cX0_findFor 25 = .ok (.iload_n 2, 1) := by decide +kernel
set_option maxRecDepth 20000 in
theorem dX0_findFor_26 : decode cX0_findFor 26 = .ok (.iconst 1, 1) := by decide +kernel
set_option maxRecDepth 20000 in
theorem dX0_findFor_27 : decode cX0_findFor 27 = .ok (.iload_n 3, 1) := by decide +kernel
set_option maxRecDepth 20000 in
theorem dX0_findFor_28 : decode cX0_findFor 28 = .ok (.ishl, 1) := by decide +kernel
set_option maxRecDepth 20000 in
theorem dX0_findFor_29 : decode cX0_findFor 29 = .ok (.iconst (-1), 1) := by decide +kernel
set_option maxRecDepth 20000 in
theorem dX0_findFor_30 : decode cX0_findFor 30 = .ok (.ixor, 1) := by decide +kernel
set_option maxRecDepth 20000 in
theorem dX0_findFor_31 : decode cX0_findFor 31 = .ok (.iand, 1) := by decide +kernel
set_option maxRecDepth 20000 in
theorem dX0_findFor_32 : decode cX0_findFor 32 = .ok (.istore 4, 2) := by decide +kernel
set_option maxRecDepth 20000 in
theorem dX0_findFor_34 : decode cX0_findFor 34 = .ok (.aload_n 0, 1) := by decide +kernel
set_option maxRecDepth 20000 in
theorem dX0_findFor_35 : decode cX0_findFor 35 = .ok (.getfield 9, 3) := by decide +kernel
set_option maxRecDepth 20000 in
theorem dX0_findFor_38 : decode cX0_findFor 38 = .ok (.iload 4, 2) := by decide +kernel
set_option maxRecDepth 20000 in
theorem dX0_findFor_40 : decode cX0_findFor 40 = .ok (.iaload, 1) := by decide +kernel
set_option maxRecDepth 20000 in
theorem dX0_findFor_41 : decode cX0_findFor 41 = .ok (.aload_n 1, 1) := by decide +kernel
set_option maxRecDepth 20000 in
theorem dX0_findFor_42 : decode cX0_findFor 42 = .ok (.iload_n 3, 1) := by decide +kernel
set_option maxRecDepth 20000 in
theorem dX0_findFor_43 : decode cX0_findFor 43 = .ok (.iload 4, 2) := by decide +kernel
set_option maxRecDepth 20000 in
theorem dX0_findFor_45 : decode cX0_findFor 45 = .ok (.invokevirtual 28, 3) := by decide +kernel
set_option maxRecDepth 20000 in
theorem dX0_findFor_48 : decode cX0_findFor 48 = .ok (.ifCond .le 7, 3) := by decide +kernel
set_option maxRecDepth 20000 in
theorem dX0_findFor_51 : decode cX0_findFor 51 = .ok (.iconst 1, 1) := by decide +kernel
set_option maxRecDepth 20000 in
theorem dX0_findFor_52 : decode cX0_findFor 52 = .ok (.goto 4, 3) := by decide +kernel
set_option maxRecDepth 20000 in
theorem dX0_findFor_55 : decode cX0_findFor 55 = .ok (.iconst 0, 1) := by decide +kernel
set_option maxRecDepth 20000 in
theorem dX0_findFor_56 : decode cX0_findFor 56 = .ok (.iadd, 1) := by decide +kernel
set_option maxRecDepth 20000 in
theorem dX0_findFor_57 : decode cX0_findFor 57 = .ok (.istore 5, 2) := by decide +kernel
set_option maxRecDepth 20000 in
theorem dX0_findFor_59 : decode cX0_findFor 59 = .ok (.iload 5, 2) := by decide +kernel
set_option maxRecDepth 20000 in
theorem dX0_findFor_61 : decode cX0_findFor 61 = .ok (.aload_n 0, 1) := by decide +kernel
set_option maxRecDepth 20000 in
theorem dX0_findFor_62 : decode cX0_findFor 62 = .ok (.getfield 9, 3) := by decide +kernel
set_option maxRecDepth 20000 in
theorem dX0_findFor_65 : decode cX0_findFor 65 = .ok (.iload_n 2, 1) := by decide +kernel
set_option maxRecDepth 20000 in
theorem dX0_findFor_66 : decode cX0_findFor 66 = .ok (.iaload, 1) := by decide +kernel
set_option maxRecDepth 20000 in
theorem dX0_findFor_67 : decode cX0_findFor 67 = .ok (.if_icmp .le 18, 3) := by decide +kernel
set_option maxRecDepth 20000 in
theorem dX0_findFor_70 : decode cX0_findFor 70 = .ok (.aload_n 0, 1) := by decide +kernel
set_option maxRecDepth 20000 in
theorem dX0_findFor_71 : decode cX0_findFor 71 = .ok (.getfield 9, 3) := by decide +kernel
set_option maxRecDepth 20000 in
theorem dX0_findFor_74 : decode cX0_findFor 74 = .ok (.iload_n 2, 1) := by decide +kernel
set_option maxRecDepth 20000 in
theorem dX0_findFor_75 : decode cX0_findFor 75 = .ok (.iload 5, 2) := by decide +kernel
set_option maxRecDepth 20000 in
theorem dX0_findFor_77 : decode cX0_findFor 77 = .ok (.iastore, 1) := by decide +kernel
set_option maxRecDepth 20000 in
theorem dX0_findFor_78 : decode cX0_findFor 78 = .ok (.aload_n 0, 1) := by decide +kernel
set_option maxRecDepth 20000 in
theorem dX0_findFor_79 : decode cX0_findFor 79 = .ok (.getfield 15, 3) := by decide +kernel
set_option maxRecDepth 20000 in
theorem dX0_findFor_82 : decode cX0_findFor 82 = .ok (.iload_n 2, 1) := by decide +kernel
set_option maxRecDepth 20000 in
theorem dX0_findFor_83 : decode cX0_findFor 83 = .ok (.iload_n 3, 1) := by decide +kernel
set_option maxRecDepth 20000 in
theorem dX0_findFor_84 : decode cX0_findFor 84 = .ok (.iastore, 1) := by decide +kernel
set_option maxRecDepth 20000 in
theorem dX0_findFor_85 : decode cX0_findFor 85 = .ok (.iinc 3 1, 3) := by decide +kernel
set_option maxRecDepth 20000 in
theorem dX0_findFor_88 : decode cX0_findFor 88 = .ok (.goto (-79), 3) := by decide +kernel
set_option maxRecDepth 20000 in
theorem dX0_findFor_91 : decode cX0_findFor 91 = .ok (.return_, 1) := by decide +kernel
set_option maxRecDepth 20000 in
theorem dX1_init_0 : decode cX1_init 0 = .ok (.aload_n 0, 1) := by decide +kernel
set_option maxRecDepth 20000 in
theorem dX1_init_1 : decode cX1_init 1 = .ok (.invokespecial 3, 3) := by decide +kernel
set_option maxRecDepth 20000 in
theorem dX1_init_4 : decode cX1_init 4 = .ok (.aload_n 0, 1) := by decide +kernel
set_option maxRecDepth 20000 in
theorem dX1_init_5 : decode cX1_init 5 = .ok (.bipush 40, 2) := by decide +kernel
set_option maxRecDepth 20000 in
theorem dX1_init_7 : decode cX1_init 7 = .ok (.newarray .int, 2) := by decide +kernel
set_option maxRecDepth 20000 in
theorem dX1_init_9 : decode cX1_init 9 = .ok (.putfield 9, 3) := by decide +kernel
set_option maxRecDepth 20000 in
theorem dX1_init_12 : decode cX1_init 12 = .ok (.aload_n 0, 1) := by decide +kernel
set_option maxRecDepth 20000 in
theorem dX1_init_13 : decode cX1_init 13 = .ok (.bipush 40, 2) := by decide +kernel
set_option maxRecDepth 20000 in
theorem dX1_init_15 : decode cX1_init 15 = .ok (.newarray .int, 2) := by decide +kernel
set_option maxRecDepth 20000 in
theorem dX1_init_17 : decode cX1_init 17 = .ok (.putfield 15, 3) := by decide +kernel
set_option maxRecDepth 20000 in
theorem dX1_init_20 : decode cX1_init 20 = .ok (.aload_n 0, 1) := by decide +kernel
set_option maxRecDepth 20000 in
theorem dX1_init_21 : decode cX1_init 21 = .ok (.bipush 40, 2) := by decide +kernel
set_option maxRecDepth 20000 in
theorem dX1_init_23 : decode cX1_init 23 = .ok (.newarray .int, 2) := by decide +kernel
set_option maxRecDepth 20000 in
theorem dX1_init_25 : decode cX1_init 25 = .ok (.putfield 18, 3) := by decide +kernel
set_option maxRecDepth 20000 in
theorem dX1_init_28 : decode cX1_init 28 = .ok (.aload_n 0, 1) := by decide +kernel
set_option maxRecDepth 20000 in
theorem dX1_init_29 : decode cX1_init 29 = .ok (.bipush 40, 2) := by decide +kernel
set_option maxRecDepth 20000 in
theorem dX1_init_31 : decode cX1_init 31 = .ok (.newarray .int, 2) := by decide +kernel
set_option maxRecDepth 20000 in
theorem dX1_init_33 : decode cX1_init 33 = .ok (.putfield 21, 3) := by decide +kernel
set_option maxRecDepth 20000 in
theorem dX1_init_36 : decode cX1_init 36 = .ok (.aload_n 0, 1) := by decide +kernel
set_option maxRecDepth 20000 in
theorem dX1_init_37 : decode cX1_init 37 = .ok (.iconst 0, 1) := by decide +kernel
set_option maxRecDepth 20000 in
theorem dX1_init_38 : decode cX1_init 38 = .ok (.putfield 24, 3) := by decide +kernel
set_option maxRecDepth 20000 in
theorem dX1_init_41 : decode cX1_init 41 = .ok (.return_, 1) := by decide +kernel
set_option maxRecDepth 20000 in
theorem dX1_hasRoomFor_0 : decode cX1_hasRoomFor 0 = .ok (.aload_n 0, 1) := by decide +kernel
set_option maxRecDepth 20000 in
theorem dX1_hasRoomFor_1 : decode cX1_hasRoomFor 1 = .ok (.getfield 24, 3) := by decide +kernel
set_option maxRecDepth 20000 in
theorem dX1_hasRoomFor_4 : decode cX1_hasRoomFor 4 = .ok (.iload_n 1, 1) := by decide +kernel
set_option maxRecDepth 20000 in
theorem dX1_hasRoomFor_5 : decode cX1_hasRoomFor 5 = .ok (.iadd, 1) := by decide +kernel
set_option maxRecDepth 20000 in
theorem dX1_hasRoomFor_6 : decode cX1_hasRoomFor 6 = .ok (.bipush 40, 2) := by decide +kernel
set_option maxRecDepth 20000 in
theorem dX1_hasRoomFor_8 : decode cX1_hasRoomFor 8 = .ok (.if_icmp .gt 7, 3) := by decide +kernel
set_option maxRecDepth 20000 in
theorem dX1_hasRoomFor_11 : decode cX1_hasRoomFor 11 = .ok (.iconst 1, 1) := by decide +kernel
set_option maxRecDepth 20000 in
theorem dX1_hasRoomFor_12 : decode cX1_hasRoomFor 12 = .ok (.goto 4, 3) := by decide +kernel
set_option maxRecDepth 20000 in
theorem dX1_hasRoomFor_15 : decode cX1_hasRoomFor 15 = .ok (.iconst 0, 1) := by decide +kernel
set_option maxRecDepth 20000 in
theorem dX1_hasRoomFor_16 : decode cX1_hasRoomFor 16 = .ok (.ireturn, 1) := by decide +kernel
set_option maxRecDepth 20000 in
theorem dX1_note_0 : decode cX1_note 0 = .ok (.aload_n 0, 1) := by decide +kernel
set_option maxRecDepth 20000 in
theorem dX1_note_1 : decode cX1_note 1 = .ok (.iconst 1, 1) := by decide +kernel
set_option maxRecDepth 20000 in
theorem dX1_note_2 : decode cX1_note 2 = .ok (.invokevirtual 28, 3) := by decide +kernel
set_option maxRecDepth 20000 in
theorem dX1_note_5 : decode cX1_note 5 = .ok (.ifCond .eq 54, 3) := by decide +kernel
set_option maxRecDepth 20000 in
theorem dX1_note_8 : decode cX1_note 8 = .ok (.aload_n 0, 1) := by decide +kernel
set_option maxRecDepth 20000 in
theorem dX1_note_9 : decode cX1_note 9 = .ok (.getfield 9, 3) := by decide +kernel
set_option maxRecDepth 20000 in
theorem dX1_note_12 : decode cX1_note 12 = .ok (.aload_n 0, 1) := by decide +kernel
set_option maxRecDepth 20000 in
theorem dX1_note_13 : decode cX1_note 13 = .ok (.getfield 24, 3) := by decide +kernel
set_option maxRecDepth 20000 in
theorem dX1_note_16 : decode cX1_note 16 = .ok (.iload_n 1, 1) := by decide +kernel
set_option maxRecDepth 20000 in
theorem dX1_note_17 : decode cX1_note 17 = .ok (.iastore, 1) := by decide +kernel
set_option maxRecDepth 20000 in
theorem dX1_note_18 : decode cX1_note 18 = .ok (.aload_n 0, 1) := by decide +kernel
set_option maxRecDepth 20000 in
theorem dX1_note_19 : decode cX1_note 19 = .ok (.getfield 15, 3) := by decide +kernel
set_option maxRecDepth 20000 in
theorem dX1_note_22 : decode cX1_note 22 = .ok (.aload_n 0, 1) := by decide +kernel
set_option maxRecDepth 20000 in
theorem dX1_note_23 : decode cX1_note 23 = .ok (.getfield 24, 3) := by decide +kernel
set_option maxRecDepth 20000 in
theorem dX1_note_26 : decode cX1_note 26 = .ok (.iload_n 2, 1) := by decide +kernel
set_option maxRecDepth 20000 in
theorem dX1_note_27 : decode cX1_note 27 = .ok (.iastore, 1) := by decide +kernel
set_option maxRecDepth 20000 in
theorem dX1_note_28 : decode cX1_note 28 = .ok (.aload_n 0, 1) := by decide +kernel
set_option maxRecDepth 20000 in
theorem dX1_note_29 : decode cX1_note 29 = .ok (.getfield 18, 3) := by decide +kernel
set_option maxRecDepth 20000 in
theorem dX1_note_32 : decode cX1_note 32 = .ok (.aload_n 0, 1) := by decide +kernel
set_option maxRecDepth 20000 in
theorem dX1_note_33 : decode cX1_note 33 = .ok (.getfield 24, 3) := by decide +kernel
set_option maxRecDepth 20000 in
theorem dX1_note_36 : decode cX1_note 36 = .ok (.iload_n 3, 1) := by decide +kernel
set_option maxRecDepth 20000 in
theorem dX1_note_37 : decode cX1_note 37 = .ok (.iastore, 1) := by decide +kernel
set_option maxRecDepth 20000 in
theorem dX1_note_38 : decode cX1_note 38 = .ok (.aload_n 0, 1) := by decide +kernel
set_option maxRecDepth 20000 in
theorem dX1_note_39 : decode cX1_note 39 = .ok (.getfield 21, 3) := by decide +kernel
set_option maxRecDepth 20000 in
theorem dX1_note_42 : decode cX1_note 42 = .ok (.aload_n 0, 1) := by decide +kernel
set_option maxRecDepth 20000 in
theorem dX1_note_43 : decode cX1_note 43 = .ok (.getfield 24, 3) := by decide +kernel
set_option maxRecDepth 20000 in
theorem dX1_note_46 : decode cX1_note 46 = .ok (.iload 4, 2) := by decide +kernel
set_option maxRecDepth 20000 in
theorem dX1_note_48 : decode cX1_note 48 = .ok (.iastore, 1) := by decide +kernel
set_option maxRecDepth 20000 in
theorem dX1_note_49 : decode cX1_note 49 = .ok (.aload_n 0, 1) := by decide +kernel
set_option maxRecDepth 20000 in
theorem dX1_note_50 : decode cX1_note 50 = .ok (.dup, 1) := by decide +kernel
set_option maxRecDepth 20000 in
theorem dX1_note_51 : decode cX1_note 51 = .ok (.getfield 24, 3) := by decide +kernel
set_option maxRecDepth 20000 in
theorem dX1_note_54 : decode cX1_note 54 = .ok (.iconst 1, 1) := by decide +kernel
set_option maxRecDepth 20000 in
theorem dX1_note_55 : decode cX1_note 55 = .ok (.iadd, 1) := by decide +kernel
set_option maxRecDepth 20000 in
theorem dX1_note_56 : decode cX1_note 56 = .ok (.putfield 24, 3) := by decide +kernel
set_option maxRecDepth 20000 in
theorem dX1_note_59 : decode cX1_note 59 = .ok (.return_, 1) := by decide +kernel
set_option maxRecDepth 20000 in
theorem dX1_takeBackLast_0 : decode cX1_takeBackLast 0 = .ok (.aload_n 0, 1) := by decide +kernel
set_option maxRecDepth 20000 in
theorem dX1_takeBackLast_1 : decode cX1_takeBackLast 1 = .ok (.getfield 24, 3) := by decide +kernel
set_option maxRecDepth 20000 in
theorem dX1_takeBackLast_4 : decode cX1_takeBackLast 4 = .ok (.ifCond .gt 4, 3) := by decide +kernel
set_option maxRecDepth 20000 in
theorem dX1_takeBackLast_7 : decode cX1_takeBackLast 7 = .ok (.return_, 1) := by decide +kernel
set_option maxRecDepth 20000 in
theorem dX1_takeBackLast_8 : decode cX1_takeBackLast 8 = .ok (.aload_n 0, 1) := by decide +kernel
set_option maxRecDepth 20000 in
theorem dX1_takeBackLast_9 : decode cX1_takeBackLast 9 = .ok (.dup, 1) := by decide +kernel
set_option maxRecDepth 20000 in
theorem dX1_takeBackLast_10 : decode cX1_takeBackLast 10 = .ok (.getfield 24, 3) := by decide +kernel
set_option maxRecDepth 20000 in
theorem dX1_takeBackLast_13 : decode cX1_takeBackLast 13 = .ok (.iconst 1, 1) := by decide +kernel
set_option maxRecDepth 20000 in
theorem dX1_takeBackLast_14 : decode cX1_takeBackLast 14 = .ok (.isub, 1) := by decide +kernel
set_option maxRecDepth 20000 in
theorem dX1_takeBackLast_15 : decode cX1_takeBackLast 15 = .ok (.putfield 24, 3) := by decide +kernel
set_option maxRecDepth 20000 in
theorem dX1_takeBackLast_18 : decode cX1_takeBackLast 18 = .ok (.aload_n 0, 1) := by decide +kernel
set_option maxRecDepth 20000 in
theorem dX1_takeBackLast_19 : decode cX1_takeBackLast 19 = .ok (.getfield 15, 3) := by decide +kernel
set_option maxRecDepth 20000 in
theorem dX1_takeBackLast_22 : decode cX1_takeBackLast 22 = .ok (.aload_n 0, 1) := by decide +kernel
set_option maxRecDepth 20000 in
theorem dX1_takeBackLast_23 : decode cX1_takeBackLast 23 = .ok (.getfield 24, 3) := by decide +kernel
set_option maxRecDepth 20000 in
theorem dX1_takeBackLast_26 : decode cX1_takeBackLast 26 = .ok (.iaload, 1) := by decide +kernel
set_option maxRecDepth 20000 in
theorem dX1_takeBackLast_27 : decode cX1_takeBackLast 27 = .ok (.istore_n 2, 1) := by decide +kernel
set_option maxRecDepth 20000 in
theorem dX1_takeBackLast_28 : decode cX1_takeBackLast 28 = .ok (.aload_n 1, 1) := by decide +kernel
set_option maxRecDepth 20000 in
theorem dX1_takeBackLast_29 : decode cX1_takeBackLast 29 = .ok (.getfield 32, 3) := by decide +kernel
set_option maxRecDepth 20000 in
theorem dX1_takeBackLast_32 : decode cX1_takeBackLast 32 = .ok (.iload_n 2, 1) := by decide +kernel
set_option maxRecDepth 20000 in
theorem dX1_takeBackLast_33 : decode cX1_takeBackLast 33 = .ok (.aaload, 1) := by decide +kernel
set_option maxRecDepth 20000 in
theorem dX1_takeBackLast_34 : decode cX1_takeBackLast 34 = .ok (.astore_n 3, 1) := by decide +kernel
set_option maxRecDepth 20000 in
theorem dX1_takeBackLast_35 : decode cX1_takeBackLast 35 = .ok (.aload_n 0, 1) := by decide +kernel
set_option maxRecDepth 20000 in
theorem dX1_takeBackLast_36 : decode cX1_takeBackLast 36 = .ok (.getfield 9, 3) := by decide +kernel
set_option maxRecDepth 20000 in
theorem dX1_takeBackLast_39 : decode cX1_takeBackLast 39 = .ok (.aload_n 0, 1) := by decide +kernel
set_option maxRecDepth 20000 in
theorem dX1_takeBackLast_40 : decode cX1_takeBackLast 40 = .ok (.getfield 24, 3) := by decide +kernel
set_option maxRecDepth 20000 in
theorem dX1_takeBackLast_43 : decode cX1_takeBackLast 43 = .ok (.iaload, 1) := by decide +kernel
set_option maxRecDepth 20000 in
theorem dX1_takeBackLast_44 : decode cX1_takeBackLast 44 = .ok (.tableswitch 99 0 2 #[28, 45, 80], 28) := by decide +kernel
set_option maxRecDepth 20000 in
theorem dX1_takeBackLast_72 : decode cX1_takeBackLast 72 = .ok (.aload_n 1, 1) := by decide +kernel
set_option maxRecDepth 20000 in
theorem dX1_takeBackLast_73 : decode cX1_takeBackLast 73 = .ok (.iload_n 2, 1) := by decide +kernel
set_option maxRecDepth 20000 in
theorem dX1_takeBackLast_74 : decode cX1_takeBackLast 74 = .ok (.aload_n 0, 1) := by decide +kernel
set_option maxRecDepth 20000 in
theorem dX1_takeBackLast_75 : decode cX1_takeBackLast 75 = .ok (.getfield 18, 3) := by decide +kernel
set_option maxRecDepth 20000 in
theorem dX1_takeBackLast_78 : decode cX1_takeBackLast 78 = .ok (.aload_n 0, 1) := by decide +kernel
set_option maxRecDepth 20000 in
theorem dX1_takeBackLast_79 : decode cX1_takeBackLast 79 = .ok (.getfield 24, 3) := by decide +kernel
set_option maxRecDepth 20000 in
theorem dX1_takeBackLast_82 : decode cX1_takeBackLast 82 = .ok (.iaload, 1) := by decide +kernel
set_option maxRecDepth 20000 in
theorem dX1_takeBackLast_83 : decode cX1_takeBackLast 83 = .ok (.invokevirtual 38, 3) := by decide +kernel
set_option maxRecDepth 20000 in
theorem dX1_takeBackLast_86 : decode cX1_takeBackLast 86 = .ok (.goto 57, 3) := by decide +kernel
set_option maxRecDepth 20000 in
theorem dX1_takeBackLast_89 : decode cX1_takeBackLast 89 = .ok (.aload_n 3, 1) := by decide +kernel
set_option maxRecDepth 20000 in
theorem dX1_takeBackLast_90 : decode cX1_takeBackLast 90 = .ok (.aload_n 3, 1) := by decide +kernel
set_option maxRecDepth 20000 in
theorem dX1_takeBackLast_91 : decode cX1_takeBackLast 91 = .ok (.getfield 42, 3) := by decide +kernel
set_option maxRecDepth 20000 in
theorem dX1_takeBackLast_94 : decode cX1_takeBackLast 94 = .ok (.aload_n 0, 1) := by decide +kernel
set_option maxRecDepth 20000 in
theorem dX1_takeBackLast_95 : decode cX1_takeBackLast 95 = .ok (.getfield 18, 3) := by decide +kernel
set_option maxRecDepth 20000 in
theorem dX1_takeBackLast_98 : decode cX1_takeBackLast 98 = .ok (.aload_n 0, 1) := by decide +kernel
set_option maxRecDepth 20000 in
theorem dX1_takeBackLast_99 : decode cX1_takeBackLast 99 = .ok (.getfield 24, 3) := by decide +kernel
set_option maxRecDepth 20000 in
theorem dX1_takeBackLast_102 : decode cX1_takeBackLast 102 = .ok (.iaload, 1) := by decide +kernel
set_option maxRecDepth 20000 in
theorem dX1_takeBackLast_103 : decode cX1_takeBackLast 103 = .ok (.isub, 1) := by decide +kernel
set_option maxRecDepth 20000 in
theorem dX1_takeBackLast_104 : decode cX1_takeBackLast 104 = .ok (.aload_n 3, 1) := by decide +kernel
set_option maxRecDepth 20000 in
theorem dX1_takeBackLast_105 : decode cX1_takeBackLast 105 = .ok (.getfield 47, 3) := by decide +kernel
set_option maxRecDepth 20000 in
theorem dX1_takeBackLast_108 : decode cX1_takeBackLast 108 = .ok (.aload_n 0, 1) := by decide +kernel
set_option maxRecDepth 20000 in
theorem dX1_takeBackLast_109 : decode cX1_takeBackLast 109 = .ok (.getfield 21, 3) := by decide +kernel
set_option maxRecDepth 20000 in
theorem dX1_takeBackLast_112 : decode cX1_takeBackLast 112 = .ok (.aload_n 0, 1) := by decide +kernel
set_option maxRecDepth 20000 in
theorem dX1_takeBackLast_113 : decode cX1_takeBackLast 113 = .ok (.getfield 24, 3) := by decide +kernel
set_option maxRecDepth 20000 in
theorem dX1_takeBackLast_116 : decode cX1_takeBackLast 116 = .ok (.iaload, 1) := by decide +kernel
set_option maxRecDepth 20000 in
theorem dX1_takeBackLast_117 : decode cX1_takeBackLast 117 = .ok (.isub, 1) := by decide +kernel
set_option maxRecDepth 20000 in
theorem dX1_takeBackLast_118 : decode cX1_takeBackLast 118 = .ok (.invokevirtual 50, 3) := by decide +kernel
set_option maxRecDepth 20000 in
theorem dX1_takeBackLast_121 : decode cX1_takeBackLast 121 = .ok (.goto 22, 3) := by decide +kernel
set_option maxRecDepth 20000 in
theorem dX1_takeBackLast_124 : decode cX1_takeBackLast 124 = .ok (.aload_n 3, 1) := by decide +kernel
set_option maxRecDepth 20000 in
theorem dX1_takeBackLast_125 : decode cX1_takeBackLast 125 = .ok (.aload_n 3, 1) := by decide +kernel
set_option maxRecDepth 20000 in
theorem dX1_takeBackLast_126 : decode cX1_takeBackLast 126 = .ok (.getfield 53, 3) := by decide +kernel
set_option maxRecDepth 20000 in
theorem dX1_takeBackLast_129 : decode cX1_takeBackLast 129 = .ok (.ifCond .ne 7, 3) := by decide +kernel
set_option maxRecDepth 20000 in
theorem dX1_takeBackLast_132 : decode cX1_takeBackLast 132 = .ok (.iconst 1, 1) := by decide +kernel
set_option maxRecDepth 20000 in
theorem dX1_takeBackLast_133 : decode cX1_takeBackLast 133 = .ok (.goto 4, 3) := by decide +kernel
set_option maxRecDepth 20000 in
theorem dX1_takeBackLast_136 : decode cX1_takeBackLast 136 = .ok (.iconst 0, 1) := by decide +kernel
set_option maxRecDepth 20000 in
theorem dX1_takeBackLast_137 : decode cX1_takeBackLast 137 = .ok (.putfield 53, 3) := by decide +kernel
set_option maxRecDepth 20000 in
theorem dX1_takeBackLast_140 : decode cX1_takeBackLast 140 = .ok (.goto 3, 3) := by decide +kernel
set_option maxRecDepth 20000 in
theorem dX1_takeBackLast_143 : decode cX1_takeBackLast 143 = .ok (.return_, 1) := by decide +kernel
set_option maxRecDepth 20000 in
theorem dX1_become_0 : decode cX1_become 0 = .ok (.aload_n 0, 1) := by decide +kernel
set_option maxRecDepth 20000 in
theorem dX1_become_1 : decode cX1_become 1 = .ok (.aload_n 1, 1) := by decide +kernel
set_option maxRecDepth 20000 in
theorem dX1_become_2 : decode cX1_become 2 = .ok (.getfield 24, 3) := by decide +kernel
set_option maxRecDepth 20000 in
theorem dX1_become_5 : decode cX1_become 5 = .ok (.putfield 24, 3) := by decide +kernel
set_option maxRecDepth 20000 in
theorem dX1_become_8 : decode cX1_become 8 = .ok (.iconst 0, 1) := by decide +kernel
set_option maxRecDepth 20000 in
theorem dX1_become_9 : decode cX1_become 9 = .ok (.istore_n 2, 1) := by decide +kernel
set_option maxRecDepth 20000 in
theorem dX1_become_10 : decode cX1_become 10 = .ok (.iload_n 2, 1) := by decide +kernel
set_option maxRecDepth 20000 in
theorem dX1_become_11 : decode cX1_become 11 = .ok (.aload_n 0, 1) := by decide +kernel
set_option maxRecDepth 20000 in
theorem dX1_become_12 : decode cX1_become 12 = .ok (.getfield 24, 3) := by decide +kernel
set_option maxRecDepth 20000 in
theorem dX1_become_15 : decode cX1_become 15 = .ok (.if_icmp .ge 57, 3) := by decide +kernel
set_option maxRecDepth 20000 in
theorem dX1_become_18 : decode cX1_become 18 = .ok (.aload_n 0, 1) := by decide +kernel
set_option maxRecDepth 20000 in
theorem dX1_become_19 : decode cX1_become 19 = .ok (.getfield 9, 3) := by decide +kernel
set_option maxRecDepth 20000 in
theorem dX1_become_22 : decode cX1_become 22 = .ok (.iload_n 2, 1) := by decide +kernel
set_option maxRecDepth 20000 in
theorem dX1_become_23 : decode cX1_become 23 = .ok (.aload_n 1, 1) := by decide +kernel
set_option maxRecDepth 20000 in
theorem dX1_become_24 : decode cX1_become 24 = .ok (.getfield 9, 3) := by decide +kernel
set_option maxRecDepth 20000 in
theorem dX1_become_27 : decode cX1_become 27 = .ok (.iload_n 2, 1) := by decide +kernel
set_option maxRecDepth 20000 in
theorem dX1_become_28 : decode cX1_become 28 = .ok (.iaload, 1) := by decide +kernel
set_option maxRecDepth 20000 in
theorem dX1_become_29 : decode cX1_become 29 = .ok (.iastore, 1) := by decide +kernel
set_option maxRecDepth 20000 in
theorem dX1_become_30 : decode cX1_become 30 = .ok (.aload_n 0, 1) := by decide +kernel
set_option maxRecDepth 20000 in
theorem dX1_become_31 : decode cX1_become 31 = .ok (.getfield 15, 3) := by decide +kernel
set_option maxRecDepth 20000 in
theorem dX1_become_34 : decode cX1_become 34 = .ok (.iload_n 2, 1) := by decide +kernel
set_option maxRecDepth 20000 in
theorem dX1_become_35 : decode cX1_become 35 = .ok (.aload_n 1, 1) := by decide +kernel
set_option maxRecDepth 20000 in
theorem dX1_become_36 : decode cX1_become 36 = .ok (.getfield 15, 3) := by decide +kernel
set_option maxRecDepth 20000 in
theorem dX1_become_39 : decode cX1_become 39 = .ok (.iload_n 2, 1) := by decide +kernel
set_option maxRecDepth 20000 in
theorem dX1_become_40 : decode cX1_become 40 = .ok (.iaload, 1) := by decide +kernel
set_option maxRecDepth 20000 in
theorem dX1_become_41 : decode cX1_become 41 = .ok (.iastore, 1) := by decide +kernel
set_option maxRecDepth 20000 in
theorem dX1_become_42 : decode cX1_become 42 = .ok (.aload_n 0, 1) := by decide +kernel
set_option maxRecDepth 20000 in
theorem dX1_become_43 : decode cX1_become 43 = .ok (.getfield 18, 3) := by decide +kernel
set_option maxRecDepth 20000 in
theorem dX1_become_46 : decode cX1_become 46 = .ok (.iload_n 2, 1) := by decide +kernel
set_option maxRecDepth 20000 in
theorem dX1_become_47 : decode cX1_become 47 = .ok (.aload_n 1, 1) := by decide +kernel
set_option maxRecDepth 20000 in
theorem dX1_become_48 : decode cX1_become 48 = .ok (.getfield 18, 3) := by decide +kernel
set_option maxRecDepth 20000 in
theorem dX1_become_51 : decode cX1_become 51 = .ok (.iload_n 2, 1) := by decide +kernel
set_option maxRecDepth 20000 in
theorem dX1_become_52 : decode cX1_become 52 = .ok (.iaload, 1) := by decide +kernel
set_option maxRecDepth 20000 in
theorem dX1_become_53 : decode cX1_become 53 = .ok (.iastore, 1) := by decide +kernel
set_option maxRecDepth 20000 in
theorem dX1_become_54 : decode cX1_become 54 = .ok (.aload_n 0, 1) := by decide +kernel
set_option maxRecDepth 20000 in
theorem dX1_become_55 : decode cX1_become 55 = .ok (.getfield 21, 3) := by decide +kernel
set_option maxRecDepth 20000 in
theorem dX1_become_58 : decode cX1_become 58 = .ok (.iload_n 2, 1) := by decide +kernel
set_option maxRecDepth 20000 in
theorem dX1_become_59 : decode cX1_become 59 = .ok (.aload_n 1, 1) := by decide +kernel
set_option maxRecDepth 20000 in
theorem dX1_become_60 : decode cX1_become 60 = .ok (.getfield 21, 3) := by decide +kernel
set_option maxRecDepth 20000 in
theorem dX1_become_63 : decode cX1_become 63 = .ok (.iload_n 2, 1) := by decide +kernel
set_option maxRecDepth 20000 in
theorem dX1_become_64 : decode cX1_become 64 = .ok (.iaload, 1) := by decide +kernel
set_option maxRecDepth 20000 in
theorem dX1_become_65 : decode cX1_become 65 = .ok (.iastore, 1) := by decide +kernel
set_option maxRecDepth 20000 in
theorem dX1_become_66 : decode cX1_become 66 = .ok (.iinc 2 1, 3) := by decide +kernel
set_option maxRecDepth 20000 in
theorem dX1_become_69 : decode cX1_become 69 = .ok (.goto (-59), 3) := by decide +kernel
set_option maxRecDepth 20000 in
theorem dX1_become_72 : decode cX1_become 72 = .ok (.return_, 1) := by decide +kernel
set_option maxRecDepth 20000 in
theorem dX2_init_0 : decode cX2_init 0 = .ok (.aload_n 0, 1) := by decide +kernel
set_option maxRecDepth 20000 in
theorem dX2_init_1 : decode cX2_init 1 = .ok (.invokespecial 3, 3) := by decide +kernel
set_option maxRecDepth 20000 in
theorem dX2_init_4 : decode cX2_init 4 = .ok (.aload_n 0, 1) := by decide +kernel
set_option maxRecDepth 20000 in
theorem dX2_init_5 : decode cX2_init 5 = .ok (.iconst 0, 1) := by decide +kernel
set_option maxRecDepth 20000 in
theorem dX2_init_6 : decode cX2_init 6 = .ok (.putfield 9, 3) := by decide +kernel
set_option maxRecDepth 20000 in
theorem dX2_init_9 : decode cX2_init 9 = .ok (.aload_n 0, 1) := by decide +kernel
set_option maxRecDepth 20000 in
theorem dX2_init_10 : decode cX2_init 10 = .ok (.iconst 0, 1) := by decide +kernel
set_option maxRecDepth 20000 in
theorem dX2_init_11 : decode cX2_init 11 = .ok (.putfield 15, 3) := by decide +kernel
set_option maxRecDepth 20000 in
theorem dX2_init_14 : decode cX2_init 14 = .ok (.aload_n 0, 1) := by decide +kernel
set_option maxRecDepth 20000 in
theorem dX2_init_15 : decode cX2_init 15 = .ok (.iconst 0, 1) := by decide +kernel
set_option maxRecDepth 20000 in
theorem dX2_init_16 : decode cX2_init 16 = .ok (.putfield 18, 3) := by decide +kernel
set_option maxRecDepth 20000 in
theorem dX2_init_19 : decode cX2_init 19 = .ok (.aload_n 0, 1) := by decide +kernel
set_option maxRecDepth 20000 in
theorem dX2_init_20 : decode cX2_init 20 = .ok (.iconst 1, 1) := by decide +kernel
set_option maxRecDepth 20000 in
theorem dX2_init_21 : decode cX2_init 21 = .ok (.putfield 21, 3) := by decide +kernel
set_option maxRecDepth 20000 in
theorem dX2_init_24 : decode cX2_init 24 = .ok (.aload_n 0, 1) := by decide +kernel
set_option maxRecDepth 20000 in
theorem dX2_init_25 : decode cX2_init 25 = .ok (.iconst 1, 1) := by decide +kernel
set_option maxRecDepth 20000 in
theorem dX2_init_26 : decode cX2_init 26 = .ok (.putfield 24, 3) := by decide +kernel
set_option maxRecDepth 20000 in
theorem dX2_init_29 : decode cX2_init 29 = .ok (.aload_n 0, 1) := by decide +kernel
set_option maxRecDepth 20000 in
theorem dX2_init_30 : decode cX2_init 30 = .ok (.iconst 0, 1) := by decide +kernel
set_option maxRecDepth 20000 in
theorem dX2_init_31 : decode cX2_init 31 = .ok (.putfield 27, 3) := by decide +kernel
set_option maxRecDepth 20000 in
theorem dX2_init_34 : decode cX2_init 34 = .ok (.aload_n 0, 1) := by decide +kernel
set_option maxRecDepth 20000 in
theorem dX2_init_35 : decode cX2_init 35 = .ok (.iconst 1, 1) := by decide +kernel
set_option maxRecDepth 20000 in
theorem dX2_init_36 : decode cX2_init 36 = .ok (.putfield 30, 3) := by decide +kernel
set_option maxRecDepth 20000 in
theorem dX2_init_39 : decode cX2_init 39 = .ok (.aload_n 0, 1) := by decide +kernel
set_option maxRecDepth 20000 in
theorem dX2_init_40 : decode cX2_init 40 = .ok (.lconst 0, 1) := by decide +kernel
set_option maxRecDepth 20000 in
theorem dX2_init_41 : decode cX2_init 41 = .ok (.putfield 34, 3) := by decide +kernel
set_option maxRecDepth 20000 in
theorem dX2_init_44 : decode cX2_init 44 = .ok (.aload_n 0, 1) := by decide +kernel
set_option maxRecDepth 20000 in
theorem dX2_init_45 : decode cX2_init 45 = .ok (.lconst 0, 1) := by decide +kernel
set_option maxRecDepth 20000 in
theorem dX2_init_46 : decode cX2_init 46 = .ok (.putfield 38, 3) := by decide +kernel
set_option maxRecDepth 20000 in
theorem dX2_init_49 : decode cX2_init 49 = .ok (.return_, 1) := by decide +kernel
set_option maxRecDepth 20000 in
theorem dX2_become_0 : decode cX2_become 0 = .ok (.aload_n 0, 1) := by decide +kernel
set_option maxRecDepth 20000 in
theorem dX2_become_1 : decode cX2_become 1 = .ok (.aload_n 1, 1) := by decide +kernel
set_option maxRecDepth 20000 in
theorem dX2_become_2 : decode cX2_become 2 = .ok (.getfield 9, 3) := by decide +kernel
set_option maxRecDepth 20000 in
theorem dX2_become_5 : decode cX2_become 5 = .ok (.putfield 9, 3) := by decide +kernel
set_option maxRecDepth 20000 in
theorem dX2_become_8 : decode cX2_become 8 = .ok (.aload_n 0, 1) := by decide +kernel
set_option maxRecDepth 20000 in
theorem dX2_become_9 : decode cX2_become 9 = .ok (.aload_n 1, 1) := by decide +kernel
set_option maxRecDepth 20000 in
theorem dX2_become_10 : decode cX2_become 10 = .ok (.getfield 15, 3) := by decide +kernel
set_option maxRecDepth 20000 in
theorem dX2_become_13 : decode cX2_become 13 = .ok (.putfield 15, 3) := by decide +kernel
set_option maxRecDepth 20000 in
theorem dX2_become_16 : decode cX2_become 16 = .ok (.aload_n 0, 1) := by decide +kernel
set_option maxRecDepth 20000 in
theorem dX2_become_17 : decode cX2_become 17 = .ok (.aload_n 1, 1) := by decide +kernel
set_option maxRecDepth 20000 in
theorem dX2_become_18 : decode cX2_become 18 = .ok (.getfield 18, 3) := by decide +kernel
set_option maxRecDepth 20000 in
theorem dX2_become_21 : decode cX2_become 21 = .ok (.putfield 18, 3) := by decide +kernel
set_option maxRecDepth 20000 in
theorem dX2_become_24 : decode cX2_become 24 = .ok (.aload_n 0, 1) := by decide +kernel
set_option maxRecDepth 20000 in
theorem dX2_become_25 : decode cX2_become 25 = .ok (.aload_n 1, 1) := by decide +kernel
set_option maxRecDepth 20000 in
theorem dX2_become_26 : decode cX2_become 26 = .ok (.getfield 21, 3) := by decide +kernel
set_option maxRecDepth 20000 in
theorem dX2_become_29 : decode cX2_become 29 = .ok (.putfield 21, 3) := by decide +kernel
set_option maxRecDepth 20000 in
theorem dX2_become_32 : decode cX2_become 32 = .ok (.aload_n 0, 1) := by decide +kernel
set_option maxRecDepth 20000 in
theorem dX2_become_33 : decode cX2_become 33 = .ok (.aload_n 1, 1) := by decide +kernel
set_option maxRecDepth 20000 in
theorem dX2_become_34 : decode cX2_become 34 = .ok (.getfield 24, 3) := by decide +kernel
set_option maxRecDepth 20000 in
theorem dX2_become_37 : decode cX2_become 37 = .ok (.putfield 24, 3) := by decide +kernel
set_option maxRecDepth 20000 in
theorem dX2_become_40 : decode cX2_become 40 = .ok (.aload_n 0, 1) := by decide +kernel
set_option maxRecDepth 20000 in
theorem dX2_become_41 : decode cX2_become 41 = .ok (.aload_n 1, 1) := by decide +kernel
set_option maxRecDepth 20000 in
theorem dX2_become_42 : decode cX2_become 42 = .ok (.getfield 27, 3) := by decide +kernel
set_option maxRecDepth 20000 in
theorem dX2_become_45 : decode cX2_become 45 = .ok (.putfield 27, 3) := by decide +kernel
set_option maxRecDepth 20000 in
theorem dX2_become_48 : decode cX2_become 48 = .ok (.aload_n 0, 1) := by decide +kernel
set_option maxRecDepth 20000 in
theorem dX2_become_49 : decode cX2_become 49 = .ok (.aload_n 1, 1) := by decide +kernel
set_option maxRecDepth 20000 in
theorem dX2_become_50 : decode cX2_become 50 = .ok (.getfield 30, 3) := by decide +kernel
set_option maxRecDepth 20000 in
theorem dX2_become_53 : decode cX2_become 53 = .ok (.putfield 30, 3) := by decide +kernel
set_option maxRecDepth 20000 in
theorem dX2_become_56 : decode cX2_become 56 = .ok (.aload_n 0, 1) := by decide +kernel
set_option maxRecDepth 20000 in
theorem dX2_become_57 : decode cX2_become 57 = .ok (.aload_n 1, 1) := by decide +kernel
set_option maxRecDepth 20000 in
theorem dX2_become_58 : decode cX2_become 58 = .ok (.getfield 34, 3) := by decide +kernel
set_option maxRecDepth 20000 in
theorem dX2_become_61 : decode cX2_become 61 = .ok (.putfield 34, 3) := by decide +kernel
set_option maxRecDepth 20000 in
theorem dX2_become_64 : decode cX2_become 64 = .ok (.aload_n 0, 1) := by decide +kernel
set_option maxRecDepth 20000 in
theorem dX2_become_65 : decode cX2_become 65 = .ok (.aload_n 1, 1) := by decide +kernel
set_option maxRecDepth 20000 in
theorem dX2_become_66 : decode cX2_become 66 = .ok (.getfield 38, 3) := by decide +kernel
set_option maxRecDepth 20000 in
theorem dX2_become_69 : decode cX2_become 69 = .ok (.putfield 38, 3) := by decide +kernel
set_option maxRecDepth 20000 in
theorem dX2_become_72 : decode cX2_become 72 = .ok (.return_, 1) := by decide +kernel
set_option maxRecDepth 20000 in
theorem dX2_rank_0 : decode cX2_rank 0 = .ok (.aload_n 0, 1) := by decide +kernel
set_option maxRecDepth 20000 in
theorem dX2_rank_1 : decode cX2_rank 1 = .ok (.getfield 9, 3) := by decide +kernel
set_option maxRecDepth 20000 in
theorem dX2_rank_4 : decode cX2_rank 4 = .ok (.iconst 3, 1) := by decide +kernel
set_option maxRecDepth 20000 in
theorem dX2_rank_5 : decode cX2_rank 5 = .ok (.if_icmp .ne 13, 3) := by decide +kernel
set_option maxRecDepth 20000 in
theorem dX2_rank_8 : decode cX2_rank 8 = .ok (.bipush 7, 2) := by decide +kernel
set_option maxRecDepth 20000 in
theorem dX2_rank_10 : decode cX2_rank 10 = .ok (.aload_n 0, 1) := by decide +kernel
set_option maxRecDepth 20000 in
theorem dX2_rank_11 : decode cX2_rank 11 = .ok (.getfield 27, 3) := by decide +kernel
set_option maxRecDepth 20000 in
theorem dX2_rank_14 : decode cX2_rank 14 = .ok (.iadd, 1) := by decide +kernel
set_option maxRecDepth 20000 in
theorem dX2_rank_15 : decode cX2_rank 15 = .ok (.goto 7, 3) := by decide +kernel
set_option maxRecDepth 20000 in
theorem dX2_rank_18 : decode cX2_rank 18 = .ok (.aload_n 0, 1) := by decide +kernel
set_option maxRecDepth 20000 in
theorem dX2_rank_19 : decode cX2_rank 19 = .ok (.getfield 27, 3) := by decide +kernel
set_option maxRecDepth 20000 in
theorem dX2_rank_22 : decode cX2_rank 22 = .ok (.ireturn, 1) := by decide +kernel
set_option maxRecDepth 20000 in
theorem dX2_fitsAt_0 : decode cX2_fitsAt 0 = .ok (.iload_n 1, 1) := by decide +kernel
set_option maxRecDepth 20000 in
theorem dX2_fitsAt_1 : decode cX2_fitsAt 1 = .ok (.ifCond .lt 33, 3) := by decide +kernel
set_option maxRecDepth 20000 in
theorem dX2_fitsAt_4 : decode cX2_fitsAt 4 = .ok (.iload_n 1, 1) := by decide +kernel
set_option maxRecDepth 20000 in
theorem dX2_fitsAt_5 : decode cX2_fitsAt 5 = .ok (.aload_n 0, 1) := by decide +kernel
set_option maxRecDepth 20000 in
theorem dX2_fitsAt_6 : decode cX2_fitsAt 6 = .ok (.getfield 21, 3) := by decide +kernel
set_option maxRecDepth 20000 in
theorem dX2_fitsAt_9 : decode cX2_fitsAt 9 = .ok (.iadd, 1) := by decide +kernel
set_option maxRecDepth 20000 in
theorem dX2_fitsAt_10 : decode cX2_fitsAt 10 = .ok (.bipush 12, 2) := by decide +kernel
set_option maxRecDepth 20000 in
theorem dX2_fitsAt_12 : decode cX2_fitsAt 12 = .ok (.if_icmp .gt 22, 3) := by decide +kernel
set_option maxRecDepth 20000 in
theorem dX2_fitsAt_15 : decode cX2_fitsAt 15 = .ok (.iload_n 2, 1) := by decide +kernel
set_option maxRecDepth 20000 in
theorem dX2_fitsAt_16 : decode cX2_fitsAt 16 = .ok (.ifCond .lt 18, 3) := by decide +kernel
set_option maxRecDepth 20000 in
theorem dX2_fitsAt_19 : decode cX2_fitsAt 19 = .ok (.iload_n 2, 1) := by decide +kernel
set_option maxRecDepth 20000 in
theorem dX2_fitsAt_20 : decode cX2_fitsAt 20 = .ok (.aload_n 0, 1) := by decide +kernel
set_option maxRecDepth 20000 in
theorem dX2_fitsAt_21 : decode cX2_fitsAt 21 = .ok (.getfield 24, 3) := by decide +kernel
set_option maxRecDepth 20000 in
theorem dX2_fitsAt_24 : decode cX2_fitsAt 24 = .ok (.iadd, 1) := by decide +kernel
set_option maxRecDepth 20000 in
theorem dX2_fitsAt_25 : decode cX2_fitsAt 25 = .ok (.bipush 8, 2) := by decide +kernel
set_option maxRecDepth 20000 in
theorem dX2_fitsAt_27 : decode cX2_fitsAt 27 = .ok (.if_icmp .gt 7, 3) := by decide +kernel
set_option maxRecDepth 20000 in
theorem dX2_fitsAt_30 : decode cX2_fitsAt 30 = .ok (.iconst 1, 1) := by decide +kernel
set_option maxRecDepth 20000 in
theorem dX2_fitsAt_31 : decode cX2_fitsAt 31 = .ok (.goto 4, 3) := by decide +kernel
set_option maxRecDepth 20000 in
theorem dX2_fitsAt_34 : decode cX2_fitsAt 34 = .ok (.iconst 0, 1) := by decide +kernel
set_option maxRecDepth 20000 in
theorem dX2_fitsAt_35 : decode cX2_fitsAt 35 = .ok (.ireturn, 1) := by decide +kernel
set_option maxRecDepth 20000 in
theorem dX2_lieAt_0 : decode cX2_lieAt 0 = .ok (.aload_n 0, 1) := by decide +kernel
set_option maxRecDepth 20000 in
theorem dX2_lieAt_1 : decode cX2_lieAt 1 = .ok (.iload_n 1, 1) := by decide +kernel
set_option maxRecDepth 20000 in
theorem dX2_lieAt_2 : decode cX2_lieAt 2 = .ok (.putfield 15, 3) := by decide +kernel
set_option maxRecDepth 20000 in
theorem dX2_lieAt_5 : decode cX2_lieAt 5 = .ok (.aload_n 0, 1) := by decide +kernel
set_option maxRecDepth 20000 in
theorem dX2_lieAt_6 : decode cX2_lieAt 6 = .ok (.iload_n 2, 1) := by decide +kernel
set_option maxRecDepth 20000 in
theorem dX2_lieAt_7 : decode cX2_lieAt 7 = .ok (.putfield 18, 3) := by decide +kernel
set_option maxRecDepth 20000 in
theorem dX2_lieAt_10 : decode cX2_lieAt 10 = .ok (.aload_n 0, 1) := by decide +kernel
set_option maxRecDepth 20000 in
theorem dX2_lieAt_11 : decode cX2_lieAt 11 = .ok (.invokevirtual 41, 3) := by decide +kernel
set_option maxRecDepth 20000 in
theorem dX2_lieAt_14 : decode cX2_lieAt 14 = .ok (.return_, 1) := by decide +kernel
set_option maxRecDepth 20000 in
theorem dX2_turnInto_0 : decode cX2_turnInto 0 = .ok (.aload_n 0, 1) := by decide +kernel
set_option maxRecDepth 20000 in
theorem dX2_turnInto_1 : decode cX2_turnInto 1 = .ok (.iload_n 1, 1) := by decide +kernel
set_option maxRecDepth 20000 in
theorem dX2_turnInto_2 : decode cX2_turnInto 2 = .ok (.putfield 9, 3) := by decide +kernel
set_option maxRecDepth 20000 in
theorem dX2_turnInto_5 : decode cX2_turnInto 5 = .ok (.aload_n 0, 1) := by decide +kernel
set_option maxRecDepth 20000 in
theorem dX2_turnInto_6 : decode cX2_turnInto 6 = .ok (.invokevirtual 41, 3) := by decide +kernel
set_option maxRecDepth 20000 in
theorem dX2_turnInto_9 : decode cX2_turnInto 9 = .ok (.return_, 1) := by decide +kernel
set_option maxRecDepth 20000 in
theorem dX2_findCells_0 : decode cX2_findCells 0 = .ok (.aload_n 0, 1) := by decide +kernel
set_option maxRecDepth 20000 in
theorem dX2_findCells_1 : decode cX2_findCells 1 = .ok (.lconst 0, 1) := by decide +kernel
set_option maxRecDepth 20000 in
theorem dX2_findCells_2 : decode cX2_findCells 2 = .ok (.putfield 34, 3) := by decide +kernel
set_option maxRecDepth 20000 in
theorem dX2_findCells_5 : decode cX2_findCells 5 = .ok (.aload_n 0, 1) := by decide +kernel
set_option maxRecDepth 20000 in
theorem dX2_findCells_6 : decode cX2_findCells 6 = .ok (.lconst 0, 1) := by decide +kernel
set_option maxRecDepth 20000 in
theorem dX2_findCells_7 : decode cX2_findCells 7 = .ok (.putfield 38, 3) := by decide +kernel
set_option maxRecDepth 20000 in
theorem dX2_findCells_10 : decode cX2_findCells 10 = .ok (.aload_n 0, 1) := by decide +kernel
set_option maxRecDepth 20000 in
theorem dX2_findCells_11 : decode cX2_findCells 11 = .ok (.getfield 18, 3) := by decide +kernel
set_option maxRecDepth 20000 in
theorem dX2_findCells_14 : decode cX2_findCells 14 = .ok (.istore_n 1, 1) := by decide +kernel
set_option maxRecDepth 20000 in
theorem dX2_findCells_15 : decode cX2_findCells 15 = .ok (.iload_n 1, 1) := by decide +kernel
set_option maxRecDepth 20000 in
theorem dX2_findCells_16 : decode cX2_findCells 16 = .ok (.aload_n 0, 1) := by decide +kernel
set_option maxRecDepth 20000 in
theorem dX2_findCells_17 : decode cX2_findCells 17 = .ok (.getfield 18, 3) := by decide +kernel
set_option maxRecDepth 20000 in
theorem dX2_findCells_20 : decode cX2_findCells 20 = .ok (.aload_n 0, 1) := by decide +kernel
set_option maxRecDepth 20000 in
theorem dX2_findCells_21 : decode cX2_findCells 21 = .ok (.getfield 24, 3) := by decide +kernel
set_option maxRecDepth 20000 in
theorem dX2_findCells_24 : decode cX2_findCells 24 = .ok (.iadd, 1) := by decide +kernel
set_option maxRecDepth 20000 in
theorem dX2_findCells_25 : decode cX2_findCells 25 = .ok (.if_icmp .ge 56, 3) := by decide +kernel
set_option maxRecDepth 20000 in
theorem dX2_findCells_28 : decode cX2_findCells 28 = .ok (.aload_n 0, 1) := by decide +kernel
set_option maxRecDepth 20000 in
theorem dX2_findCells_29 : decode cX2_findCells 29 = .ok (.getfield 15, 3) := by decide +kernel
set_option maxRecDepth 20000 in
theorem dX2_findCells_32 : decode cX2_findCells 32 = .ok (.istore_n 2, 1) := by decide +kernel
set_option maxRecDepth 20000 in
theorem dX2_findCells_33 : decode cX2_findCells 33 = .ok (.iload_n 2, 1) := by decide +kernel
set_option maxRecDepth 20000 in
theorem dX2_findCells_34 : decode cX2_findCells 34 = .ok (.aload_n 0, 1) := by decide +kernel
set_option maxRecDepth 20000 in
theorem dX2_findCells_35 : decode cX2_findCells 35 = .ok (.getfield 15, 3) := by decide +kernel
set_option maxRecDepth 20000 in
theorem dX2_findCells_38 : decode cX2_findCells 38 = .ok (.aload_n 0, 1) := by decide +kernel
set_option maxRecDepth 20000 in
theorem dX2_findCells_39 : decode cX2_findCells 39 = .ok (.getfield 21, 3) := by decide +kernel
set_option maxRecDepth 20000 in
theorem dX2_findCells_42 : decode cX2_findCells 42 = .ok (.iadd, 1) := by decide +kernel
set_option maxRecDepth 20000 in
theorem dX2_findCells_43 : decode cX2_findCells 43 = .ok (.if_icmp .ge 32, 3) := by decide +kernel
set_option maxRecDepth 20000 in
theorem dX2_findCells_46 : decode cX2_findCells 46 = .ok (.aload_n 0, 1) := by decide +kernel
set_option maxRecDepth 20000 in
theorem dX2_findCells_47 : decode cX2_findCells 47 = .ok (.aload_n 0, 1) := by decide +kernel
set_option maxRecDepth 20000 in
theorem dX2_findCells_48 : decode cX2_findCells 48 = .ok (.getfield 9, 3) := by decide +kernel
set_option maxRecDepth 20000 in
theorem dX2_findCells_51 : decode cX2_findCells 51 = .ok (.iload_n 2, 1) := by decide +kernel
set_option maxRecDepth 20000 in
theorem dX2_findCells_52 : decode cX2_findCells 52 = .ok (.iload_n 1, 1) := by decide +kernel
set_option maxRecDepth 20000 in
theorem dX2_findCells_53 : decode cX2_findCells 53 = .ok (.invokevirtual 44, 3) := by decide +kernel
set_option maxRecDepth 20000 in
theorem dX2_findCells_56 : decode cX2_findCells 56 = .ok (.ifCond .eq 13, 3) := by decide +kernel
set_option maxRecDepth 20000 in
theorem dX2_findCells_59 : decode cX2_findCells 59 = .ok (.aload_n 0, 1) := by decide +kernel
set_option maxRecDepth 20000 in
theorem dX2_findCells_60 : decode cX2_findCells 60 = .ok (.iload_n 1, 1) := by decide +kernel
set_option maxRecDepth 20000 in
theorem dX2_findCells_61 : decode cX2_findCells 61 = .ok (.bipush 12, 2) := by decide +kernel
set_option maxRecDepth 20000 in
theorem dX2_findCells_63 : decode cX2_findCells 63 = .ok (.imul, 1) := by decide +kernel
set_option maxRecDepth 20000 in
theorem dX2_findCells_64 : decode cX2_findCells 64 = .ok (.iload_n 2, 1) := by decide +kernel
set_option maxRecDepth 20000 in
theorem dX2_findCells_65 : decode cX2_findCells 65 = .ok (.iadd, 1) := by decide +kernel
set_option maxRecDepth 20000 in
theorem dX2_findCells_66 : decode cX2_findCells 66 = .ok (.invokevirtual 48, 3) := by decide +kernel
set_option maxRecDepth 20000 in
theorem dX2_findCells_69 : decode cX2_findCells 69 = .ok (.iinc 2 1, 3) := by decide +kernel
set_option maxRecDepth 20000 in
theorem dX2_findCells_72 : decode cX2_findCells 72 = .ok (.goto (-39), 3) := by decide +kernel
set_option maxRecDepth 20000 in
theorem dX2_findCells_75 : decode cX2_findCells 75 = .ok (.iinc 1 1, 3) := by decide +kernel
set_option maxRecDepth 20000 in
theorem dX2_findCells_78 : decode cX2_findCells 78 = .ok (.goto (-63), 3) := by decide +kernel
set_option maxRecDepth 20000 in
theorem dX2_findCells_81 : decode cX2_findCells 81 = .ok (.return_, 1) := by decide +kernel
set_option maxRecDepth 20000 in
theorem dX2_addCell_0 : decode cX2_addCell 0 = .ok (.iload_n 1, 1) := by decide +kernel
set_option maxRecDepth 20000 in
theorem dX2_addCell_1 : decode cX2_addCell 1 = .ok (.bipush 48, 2) := by decide +kernel
set_option maxRecDepth 20000 in
theorem dX2_addCell_3 : decode cX2_addCell 3 = .ok (.if_icmp .ge 18, 3) := by decide +kernel
set_option maxRecDepth 20000 in
theorem dX2_addCell_6 : decode cX2_addCell 6 = .ok (.aload_n 0, 1) := by decide +kernel
set_option maxRecDepth 20000 in
theorem dX2_addCell_7 : decode cX2_addCell 7 = .ok (.dup, 1) := by decide +kernel
set_option maxRecDepth 20000 in
theorem dX2_addCell_8 : decode cX2_addCell 8 = .ok (.getfield 34, 3) := by decide +kernel
set_option maxRecDepth 20000 in
theorem dX2_addCell_11 : decode cX2_addCell 11 = .ok (.lconst 1, 1) := by decide +kernel
set_option maxRecDepth 20000 in
theorem dX2_addCell_12 : decode cX2_addCell 12 = .ok (.iload_n 1, 1) := by decide +kernel
set_option maxRecDepth 20000 in
theorem dX2_addCell_13 : decode cX2_addCell 13 = .ok (.lshl, 1) := by decide +kernel
set_option maxRecDepth 20000 in
theorem dX2_addCell_14 : decode cX2_addCell 14 = .ok (.lor, 1) := by decide +kernel
set_option maxRecDepth 20000 in
theorem dX2_addCell_15 : decode cX2_addCell 15 = .ok (.putfield 34, 3) := by decide +kernel
set_option maxRecDepth 20000 in
theorem dX2_addCell_18 : decode cX2_addCell 18 = .ok (.goto 18, 3) := by decide +kernel
set_option maxRecDepth 20000 in
theorem dX2_addCell_21 : decode cX2_addCell 21 = .ok (.aload_n 0, 1) := by decide +kernel
set_option maxRecDepth 20000 in
theorem dX2_addCell_22 : decode cX2_addCell 22 = .ok (.dup, 1) := by decide +kernel
set_option maxRecDepth 20000 in
theorem dX2_addCell_23 : decode cX2_addCell 23 = .ok (.getfield 38, 3) := by decide +kernel
set_option maxRecDepth 20000 in
theorem dX2_addCell_26 : decode cX2_addCell 26 = .ok (.lconst 1, 1) := by decide +kernel
set_option maxRecDepth 20000 in
theorem dX2_addCell_27 : decode cX2_addCell 27 = .ok (.iload_n 1, 1) := by decide +kernel
set_option maxRecDepth 20000 in
theorem dX2_addCell_28 : decode cX2_addCell 28 = .ok (.bipush 48, 2) := by decide +kernel
set_option maxRecDepth 20000 in
theorem dX2_addCell_30 : decode cX2_addCell 30 = .ok (.isub, 1) := by decide +kernel
set_option maxRecDepth 20000 in
theorem dX2_addCell_31 : decode cX2_addCell 31 = .ok (.lshl, 1) := by decide +kernel
set_option maxRecDepth 20000 in
theorem dX2_addCell_32 : decode cX2_addCell 32 = .ok (.lor, 1) := by decide +kernel
set_option maxRecDepth 20000 in
theorem dX2_addCell_33 : decode cX2_addCell 33 = .ok (.putfield 38, 3) := by decide +kernel
set_option maxRecDepth 20000 in
theorem dX2_addCell_36 : decode cX2_addCell 36 = .ok (.return_, 1) := by decide +kernel
set_option maxRecDepth 20000 in
theorem dX2_reaches_0 : decode cX2_reaches 0 = .ok (.iload_n 2, 1) := by decide +kernel
set_option maxRecDepth 20000 in
theorem dX2_reaches_1 : decode cX2_reaches 1 = .ok (.aload_n 0, 1) := by decide +kernel
set_option maxRecDepth 20000 in
theorem dX2_reaches_2 : decode cX2_reaches 2 = .ok (.getfield 15, 3) := by decide +kernel
set_option maxRecDepth 20000 in
theorem dX2_reaches_5 : decode cX2_reaches 5 = .ok (.if_icmp .eq 11, 3) := by decide +kernel
set_option maxRecDepth 20000 in
theorem dX2_reaches_8 : decode cX2_reaches 8 = .ok (.iload_n 3, 1) := by decide +kernel
set_option maxRecDepth 20000 in
theorem dX2_reaches_9 : decode cX2_reaches 9 = .ok (.aload_n 0, 1) := by decide +kernel
set_option maxRecDepth 20000 in
theorem dX2_reaches_10 : decode cX2_reaches 10 = .ok (.getfield 18, 3) := by decide +kernel
set_option maxRecDepth 20000 in
theorem dX2_reaches_13 : decode cX2_reaches 13 = .ok (.if_icmp .ne 7, 3) := by decide +kernel
set_option maxRecDepth 20000 in
theorem dX2_reaches_16 : decode cX2_reaches 16 = .ok (.iconst 1, 1) := by decide +kernel
set_option maxRecDepth 20000 in
theorem dX2_reaches_17 : decode cX2_reaches 17 = .ok (.goto 4, 3) := by decide +kernel
set_option maxRecDepth 20000 in
theorem dX2_reaches_20 : decode cX2_reaches 20 = .ok (.iconst 0, 1) := by decide +kernel
set_option maxRecDepth 20000 in
theorem dX2_reaches_21 : decode cX2_reaches 21 = .ok (.istore 4, 2) := by decide +kernel
set_option maxRecDepth 20000 in
theorem dX2_reaches_23 : decode cX2_reaches 23 = .ok (.iload_n 2, 1) := by decide +kernel
set_option maxRecDepth 20000 in
theorem dX2_reaches_24 : decode cX2_reaches 24 = .ok (.aload_n 0, 1) := by decide +kernel
set_option maxRecDepth 20000 in
theorem dX2_reaches_25 : decode cX2_reaches 25 = .ok (.getfield 15, 3) := by decide +kernel
set_option maxRecDepth 20000 in
theorem dX2_reaches_28 : decode cX2_reaches 28 = .ok (.aload_n 0, 1) := by decide +kernel
set_option maxRecDepth 20000 in
theorem dX2_reaches_29 : decode cX2_reaches 29 = .ok (.getfield 21, 3) := by decide +kernel
set_option maxRecDepth 20000 in
theorem dX2_reaches_32 : decode cX2_reaches 32 = .ok (.iadd, 1) := by decide +kernel
set_option maxRecDepth 20000 in
theorem dX2_reaches_33 : decode cX2_reaches 33 = .ok (.iconst 1, 1) := by decide +kernel
set_option maxRecDepth 20000 in
theorem dX2_reaches_34 : decode cX2_reaches 34 = .ok (.isub, 1) := by decide +kernel
set_option maxRecDepth 20000 in
theorem dX2_reaches_35 : decode cX2_reaches 35 = .ok (.if_icmp .eq 18, 3) := by decide +kernel
set_option maxRecDepth 20000 in
theorem dX2_reaches_38 : decode cX2_reaches 38 = .ok (.iload_n 3, 1) := by decide +kernel
set_option maxRecDepth 20000 in
theorem dX2_reaches_39 : decode cX2_reaches 39 = .ok (.aload_n 0, 1) := by decide +kernel
set_option maxRecDepth 20000 in
theorem dX2_reaches_40 : decode cX2_reaches 40 = .ok (.getfield 18, 3) := by decide +kernel
set_option maxRecDepth 20000 in
theorem dX2_reaches_43 : decode cX2_reaches 43 = .ok (.aload_n 0, 1) := by decide +kernel
set_option maxRecDepth 20000 in
theorem dX2_reaches_44 : decode cX2_reaches 44 = .ok (.getfield 24, 3) := by decide +kernel
set_option maxRecDepth 20000 in
theorem dX2_reaches_47 : decode cX2_reaches 47 = .ok (.iadd, 1) := by decide +kernel
set_option maxRecDepth 20000 in
theorem dX2_reaches_48 : decode cX2_reaches 48 = .ok (.iconst 1, 1) := by decide +kernel
set_option maxRecDepth 20000 in
theorem dX2_reaches_49 : decode cX2_reaches 49 = .ok (.isub, 1) := by decide +kernel
set_option maxRecDepth 20000 in
theorem dX2_reaches_50 : decode cX2_reaches 50 = .ok (.if_icmp .ne 7, 3) := by decide +kernel
set_option maxRecDepth 20000 in
theorem dX2_reaches_53 : decode cX2_reaches 53 = .ok (.iconst 1, 1) := by decide +kernel
set_option maxRecDepth 20000 in
theorem dX2_reaches_54 : decode cX2_reaches 54 = .ok (.goto 4, 3) := by decide +kernel
set_option maxRecDepth 20000 in
theorem dX2_reaches_57 : decode cX2_reaches 57 = .ok (.iconst 0, 1) := by decide +kernel
set_option maxRecDepth 20000 in
theorem dX2_reaches_58 : decode cX2_reaches 58 = .ok (.istore 5, 2) := by decide +kernel
set_option maxRecDepth 20000 in
theorem dX2_reaches_60 : decode cX2_reaches 60 = .ok (.iload_n 2, 1) := by decide +kernel
set_option maxRecDepth 20000 in
theorem dX2_reaches_61 : decode cX2_reaches 61 = .ok (.iload_n 3, 1) := by decide +kernel
set_option maxRecDepth 20000 in
theorem dX2_reaches_62 : decode cX2_reaches 62 = .ok (.iadd, 1) := by decide +kernel
set_option maxRecDepth 20000 in
theorem dX2_reaches_63 : decode cX2_reaches 63 = .ok (.iconst 2, 1) := by decide +kernel
set_option maxRecDepth 20000 in
theorem dX2_reaches_64 : decode cX2_reaches 64 = .ok (.irem, 1) := by decide +kernel
set_option maxRecDepth 20000 in
theorem dX2_reaches_65 : decode cX2_reaches 65 = .ok (.ifCond .ne 7, 3) := by decide +kernel
set_option maxRecDepth 20000 in
theorem dX2_reaches_68 : decode cX2_reaches 68 = .ok (.iconst 1, 1) := by decide +kernel
set_option maxRecDepth 20000 in
theorem dX2_reaches_69 : decode cX2_reaches 69 = .ok (.goto 4, 3) := by decide +kernel
set_option maxRecDepth 20000 in
theorem dX2_reaches_72 : decode cX2_reaches 72 = .ok (.iconst 0, 1) := by decide +kernel
set_option maxRecDepth 20000 in
theorem dX2_reaches_73 : decode cX2_reaches 73 = .ok (.istore 6, 2) := by decide +kernel
set_option maxRecDepth 20000 in
theorem dX2_reaches_75 : decode cX2_reaches 75 = .ok (.iload_n 1, 1) := by decide +kernel
set_option maxRecDepth 20000 in
theorem dX2_reaches_76 : decode cX2_reaches 76 = .ok (.tableswitch 79 1 5 #[36, 52, 79, 55, 58], 36) := by decide +kernel
set_option maxRecDepth 20000 in
theorem dX2_reaches_112 : decode cX2_reaches 112 = .ok (.iload 4, 2) := by decide +kernel
set_option maxRecDepth 20000 in
theorem dX2_reaches_114 : decode cX2_reaches 114 = .ok (.ifCond .ne 8, 3) := by decide +kernel
set_option maxRecDepth 20000 in
theorem dX2_reaches_117 : decode cX2_reaches 117 = .ok (.iload 5, 2) := by decide +kernel
set_option maxRecDepth 20000 in
theorem dX2_reaches_119 : decode cX2_reaches 119 = .ok (.ifCond .eq 7, 3) := by decide +kernel
set_option maxRecDepth 20000 in
theorem dX2_reaches_122 : decode cX2_reaches 122 = .ok (.iconst 1, 1) := by decide +kernel
set_option maxRecDepth 20000 in
theorem dX2_reaches_123 : decode cX2_reaches 123 = .ok (.goto 4, 3) := by decide +kernel
set_option maxRecDepth 20000 in
theorem dX2_reaches_126 : decode cX2_reaches 126 = .ok (.iconst 0, 1) := by decide +kernel
set_option maxRecDepth 20000 in
theorem dX2_reaches_127 : decode cX2_reaches 127 = .ok (.ireturn, 1) := by decide +kernel
set_option maxRecDepth 20000 in
theorem dX2_reaches_128 : decode cX2_reaches 128 = .ok (.iload 6, 2) := by decide +kernel
set_option maxRecDepth 20000 in
theorem dX2_reaches_130 : decode cX2_reaches 130 = .ok (.ireturn, 1) := by decide +kernel
set_option maxRecDepth 20000 in
theorem dX2_reaches_131 : decode cX2_reaches 131 = .ok (.iload 4, 2) := by decide +kernel
set_option maxRecDepth 20000 in
theorem dX2_reaches_133 : decode cX2_reaches 133 = .ok (.ireturn, 1) := by decide +kernel
set_option maxRecDepth 20000 in
theorem dX2_reaches_134 : decode cX2_reaches 134 = .ok (.iload 6, 2) := by decide +kernel
set_option maxRecDepth 20000 in
theorem dX2_reaches_136 : decode cX2_reaches 136 = .ok (.ifCond .eq 17, 3) := by decide +kernel
set_option maxRecDepth 20000 in
theorem dX2_reaches_139 : decode cX2_reaches 139 = .ok (.iload 4, 2) := by decide +kernel
set_option maxRecDepth 20000 in
theorem dX2_reaches_141 : decode cX2_reaches 141 = .ok (.ifCond .ne 12, 3) := by decide +kernel
set_option maxRecDepth 20000 in
theorem dX2_reaches_144 : decode cX2_reaches 144 = .ok (.iload 5, 2) := by decide +kernel
set_option maxRecDepth 20000 in
theorem dX2_reaches_146 : decode cX2_reaches 146 = .ok (.ifCond .ne 7, 3) := by decide +kernel
set_option maxRecDepth 20000 in
theorem dX2_reaches_149 : decode cX2_reaches 149 = .ok (.iconst 1, 1) := by decide +kernel
set_option maxRecDepth 20000 in
theorem dX2_reaches_150 : decode cX2_reaches 150 = .ok (.goto 4, 3) := by decide +kernel
set_option maxRecDepth 20000 in
theorem dX2_reaches_153 : decode cX2_reaches 153 = .ok (.iconst 0, 1) := by decide +kernel
set_option maxRecDepth 20000 in
theorem dX2_reaches_154 : decode cX2_reaches 154 = .ok (.ireturn, 1) := by decide +kernel
set_option maxRecDepth 20000 in
theorem dX2_reaches_155 : decode cX2_reaches 155 = .ok (.iconst 1, 1) := by decide +kernel
set_option maxRecDepth 20000 in
theorem dX2_reaches_156 : decode cX2_reaches 156 = .ok (.ireturn, 1) := by decide +kernel
set_option maxRecDepth 20000 in
theorem dX2_hasCell_0 : decode cX2_hasCell 0 = .ok (.iload_n 1, 1) := by decide +kernel
set_option maxRecDepth 20000 in
theorem dX2_hasCell_1 : decode cX2_hasCell 1 = .ok (.bipush 48, 2) := by decide +kernel
set_option maxRecDepth 20000 in
theorem dX2_hasCell_3 : decode cX2_hasCell 3 = .ok (.if_icmp .ge 12, 3) := by decide +kernel
set_option maxRecDepth 20000 in
theorem dX2_hasCell_6 : decode cX2_hasCell 6 = .ok (.aload_n 0, 1) := by decide +kernel
set_option maxRecDepth 20000 in
theorem dX2_hasCell_7 : decode cX2_hasCell 7 = .ok (.getfield 34, 3) := by decide +kernel
set_option maxRecDepth 20000 in
theorem dX2_hasCell_10 : decode cX2_hasCell 10 = .ok (.iload_n 1, 1) := by decide +kernel
set_option maxRecDepth 20000 in
theorem dX2_hasCell_11 : decode cX2_hasCell 11 = .ok (.lushr, 1) := by decide +kernel
set_option maxRecDepth 20000 in
theorem dX2_hasCell_12 : decode cX2_hasCell 12 = .ok (.goto 12, 3) := by decide +kernel
set_option maxRecDepth 20000 in
theorem dX2_hasCell_15 : decode cX2_hasCell 15 = .ok (.aload_n 0, 1) := by decide +kernel
set_option maxRecDepth 20000 in
theorem dX2_hasCell_16 : decode cX2_hasCell 16 = .ok (.getfield 38, 3) := by decide +kernel
set_option maxRecDepth 20000 in
theorem dX2_hasCell_19 : decode cX2_hasCell 19 = .ok (.iload_n 1, 1) := by decide +kernel
set_option maxRecDepth 20000 in
theorem dX2_hasCell_20 : decode cX2_hasCell 20 = .ok (.bipush 48, 2) := by decide +kernel
set_option maxRecDepth 20000 in
theorem dX2_hasCell_22 : decode cX2_hasCell 22 = .ok (.isub, 1) := by decide +kernel
set_option maxRecDepth 20000 in
theorem dX2_hasCell_23 : decode cX2_hasCell 23 = .ok (.lushr, 1) := by decide +kernel
set_option maxRecDepth 20000 in
theorem dX2_hasCell_24 : decode cX2_hasCell 24 = .ok (.lconst 1, 1) := by decide +kernel
set_option maxRecDepth 20000 in
theorem dX2_hasCell_25 : decode cX2_hasCell 25 = .ok (.land, 1) := by decide +kernel
set_option maxRecDepth 20000 in
theorem dX2_hasCell_26 : decode cX2_hasCell 26 = .ok (.lconst 0, 1) := by decide +kernel
set_option maxRecDepth 20000 in
theorem dX2_hasCell_27 : decode cX2_hasCell 27 = .ok (.lcmp, 1) := by decide +kernel
set_option maxRecDepth 20000 in
theorem dX2_hasCell_28 : decode cX2_hasCell 28 = .ok (.ifCond .eq 7, 3) := by decide +kernel
set_option maxRecDepth 20000 in
theorem dX2_hasCell_31 : decode cX2_hasCell 31 = .ok (.iconst 1, 1) := by decide +kernel
set_option maxRecDepth 20000 in
theorem dX2_hasCell_32 : decode cX2_hasCell 32 = .ok (.goto 4, 3) := by decide +kernel
set_option maxRecDepth 20000 in
theorem dX2_hasCell_35 : decode cX2_hasCell 35 = .ok (.iconst 0, 1) := by decide +kernel
set_option maxRecDepth 20000 in
theorem dX2_hasCell_36 : decode cX2_hasCell 36 = .ok (.ireturn, 1) := by decide +kernel
set_option maxRecDepth 20000 in
theorem dX2_covered_0 : decode cX2_covered 0 = .ok (.aload_n 0, 1) := by decide +kernel
set_option maxRecDepth 20000 in
theorem dX2_covered_1 : decode cX2_covered 1 = .ok (.getfield 34, 3) := by decide +kernel
set_option maxRecDepth 20000 in
theorem dX2_covered_4 : decode cX2_covered 4 = .ok (.invokestatic 52, 3) := by decide +kernel
set_option maxRecDepth 20000 in
theorem dX2_covered_7 : decode cX2_covered 7 = .ok (.aload_n 0, 1) := by decide +kernel
set_option maxRecDepth 20000 in
theorem dX2_covered_8 : decode cX2_covered 8 = .ok (.getfield 38, 3) := by decide +kernel
set_option maxRecDepth 20000 in
theorem dX2_covered_11 : decode cX2_covered 11 = .ok (.invokestatic 52, 3) := by decide +kernel
set_option maxRecDepth 20000 in
theorem dX2_covered_14 : decode cX2_covered 14 = .ok (.iadd, 1) := by decide +kernel
set_option maxRecDepth 20000 in
theorem dX2_covered_15 : decode cX2_covered 15 = .ok (.ireturn, 1) := by decide +kernel
set_option maxRecDepth 20000 in
theorem dX2_coveredAs_0 : decode cX2_coveredAs 0 = .ok (.iconst 0, 1) := by decide +kernel
set_option maxRecDepth 20000 in
theorem dX2_coveredAs_1 : decode cX2_coveredAs 1 = .ok (.istore_n 2, 1) := by decide +kernel
set_option maxRecDepth 20000 in
theorem dX2_coveredAs_2 : decode cX2_coveredAs 2 = .ok (.aload_n 0, 1) := by decide +kernel
set_option maxRecDepth 20000 in
theorem dX2_coveredAs_3 : decode cX2_coveredAs 3 = .ok (.getfield 18, 3) := by decide +kernel
set_option maxRecDepth 20000 in
theorem dX2_coveredAs_6 : decode cX2_coveredAs 6 = .ok (.istore_n 3, 1) := by decide +kernel
set_option maxRecDepth 20000 in
theorem dX2_coveredAs_7 : decode cX2_coveredAs 7 = .ok (.iload_n 3, 1) := by decide +kernel
set_option maxRecDepth 20000 in
theorem dX2_coveredAs_8 : decode cX2_coveredAs 8 = .ok (.aload_n 0, 1) := by decide +kernel
set_option maxRecDepth 20000 in
theorem dX2_coveredAs_9 : decode cX2_coveredAs 9 = .ok (.getfield 18, 3) := by decide +kernel
set_option maxRecDepth 20000 in
theorem dX2_coveredAs_12 : decode cX2_coveredAs 12 = .ok (.aload_n 0, 1) := by decide +kernel
set_option maxRecDepth 20000 in
theorem dX2_coveredAs_13 : decode cX2_coveredAs 13 = .ok (.getfield 24, 3) := by decide +kernel
set_option maxRecDepth 20000 in
theorem dX2_coveredAs_16 : decode cX2_coveredAs 16 = .ok (.iadd, 1) := by decide +kernel
set_option maxRecDepth 20000 in
theorem dX2_coveredAs_17 : decode cX2_coveredAs 17 = .ok (.if_icmp .ge 54, 3) := by decide +kernel
set_option maxRecDepth 20000 in
theorem dX2_coveredAs_20 : decode cX2_coveredAs 20 = .ok (.aload_n 0, 1) := by decide +kernel
set_option maxRecDepth 20000 in
theorem dX2_coveredAs_21 : decode cX2_coveredAs 21 = .ok (.getfield 15, 3) := by decide +kernel
set_option maxRecDepth 20000 in
theorem dX2_coveredAs_24 : decode cX2_coveredAs 24 = .ok (.istore 4, 2) := by decide +kernel
set_option maxRecDepth 20000 in
theorem dX2_coveredAs_26 : decode cX2_coveredAs 26 = .ok (.iload 4, 2) := by decide +kernel
set_option maxRecDepth 20000 in
theorem dX2_coveredAs_28 : decode cX2_coveredAs 28 = .ok (.aload_n 0, 1) := by decide +kernel
set_option maxRecDepth 20000 in
theorem dX2_coveredAs_29 : decode cX2_coveredAs 29 = .ok (.getfield 15, 3) := by decide +kernel
set_option maxRecDepth 20000 in
theorem dX2_coveredAs_32 : decode cX2_coveredAs 32 = .ok (.aload_n 0, 1) := by decide +kernel
set_option maxRecDepth 20000 in
theorem dX2_coveredAs_33 : decode cX2_coveredAs 33 = .ok (.getfield 21, 3) := by decide +kernel
set_option maxRecDepth 20000 in
theorem dX2_coveredAs_36 : decode cX2_coveredAs 36 = .ok (.iadd, 1) := by decide +kernel
set_option maxRecDepth 20000 in
theorem dX2_coveredAs_37 : decode cX2_coveredAs 37 = .ok (.if_icmp .ge 28, 3) := by decide +kernel
set_option maxRecDepth 20000 in
theorem dX2_coveredAs_40 : decode cX2_coveredAs 40 = .ok (.iload_n 2, 1) := by decide +kernel
set_option maxRecDepth 20000 in
theorem dX2_coveredAs_41 : decode cX2_coveredAs 41 = .ok (.aload_n 0, 1) := by decide +kernel
set_option maxRecDepth 20000 in
theorem dX2_coveredAs_42 : decode cX2_coveredAs 42 = .ok (.iload_n 1, 1) := by decide +kernel
set_option maxRecDepth 20000 in
theorem dX2_coveredAs_43 : decode cX2_coveredAs 43 = .ok (.iload 4, 2) := by decide +kernel
set_option maxRecDepth 20000 in
theorem dX2_coveredAs_45 : decode cX2_coveredAs 45 = .ok (.iload_n 3, 1) := by decide +kernel
set_option maxRecDepth 20000 in
theorem dX2_coveredAs_46 : decode cX2_coveredAs 46 = .ok (.invokevirtual 44, 3) := by decide +kernel
set_option maxRecDepth 20000 in
theorem dX2_coveredAs_49 : decode cX2_coveredAs 49 = .ok (.ifCond .eq 7, 3) := by decide +kernel
set_option maxRecDepth 20000 in
theorem dX2_coveredAs_52 : decode cX2_coveredAs 52 = .ok (.iconst 1, 1) := by decide +kernel
set_option maxRecDepth 20000 in
theorem dX2_coveredAs_53 : decode cX2_coveredAs 53 = .ok (.goto 4, 3) := by decide +kernel
set_option maxRecDepth 20000 in
theorem dX2_coveredAs_56 : decode cX2_coveredAs 56 = .ok (.iconst 0, 1) := by decide +kernel
set_option maxRecDepth 20000 in
theorem dX2_coveredAs_57 : decode cX2_coveredAs 57 = .ok (.iadd, 1) := by decide +kernel
set_option maxRecDepth 20000 in
theorem dX2_coveredAs_58 : decode cX2_coveredAs 58 = .ok (.istore_n 2, 1) := by decide +kernel
set_option maxRecDepth 20000 in
theorem dX2_coveredAs_59 : decode cX2_coveredAs 59 = .ok (.iinc 4 1, 3) := by decide +kernel
set_option maxRecDepth 20000 in
theorem dX2_coveredAs_62 : decode cX2_coveredAs 62 = .ok (.goto (-36), 3) := by decide +kernel
set_option maxRecDepth 20000 in
theorem dX2_coveredAs_65 : decode cX2_coveredAs 65 = .ok (.iinc 3 1, 3) := by decide +kernel
set_option maxRecDepth 20000 in
theorem dX2_coveredAs_68 : decode cX2_coveredAs 68 = .ok (.goto (-61), 3) := by decide +kernel
set_option maxRecDepth 20000 in
theorem dX2_coveredAs_71 : decode cX2_coveredAs 71 = .ok (.iload_n 2, 1) := by decide +kernel
set_option maxRecDepth 20000 in
theorem dX2_coveredAs_72 : decode cX2_coveredAs 72 = .ok (.ireturn, 1) := by decide +kernel
set_option maxRecDepth 20000 in
theorem dX2_cellsShared_0 : decode cX2_cellsShared 0 = .ok (.aload_n 0, 1) := by decide +kernel
set_option maxRecDepth 20000 in
theorem dX2_cellsShared_1 : decode cX2_cellsShared 1 = .ok (.getfield 34, 3) := by decide +kernel
set_option maxRecDepth 20000 in
theorem dX2_cellsShared_4 : decode cX2_cellsShared 4 = .ok (.aload_n 1, 1) := by decide +kernel
set_option maxRecDepth 20000 in
theorem dX2_cellsShared_5 : decode cX2_cellsShared 5 = .ok (.getfield 34, 3) := by decide +kernel
set_option maxRecDepth 20000 in
theorem dX2_cellsShared_8 : decode cX2_cellsShared 8 = .ok (.land, 1) := by decide +kernel
set_option maxRecDepth 20000 in
theorem dX2_cellsShared_9 : decode cX2_cellsShared 9 = .ok (.invokestatic 52, 3) := by decide +kernel
set_option maxRecDepth 20000 in
theorem dX2_cellsShared_12 : decode cX2_cellsShared 12 = .ok (.aload_n 0, 1) := by decide +kernel
set_option maxRecDepth 20000 in
theorem dX2_cellsShared_13 : decode cX2_cellsShared 13 = .ok (.getfield 38, 3) := by decide +kernel
set_option maxRecDepth 20000 in
theorem dX2_cellsShared_16 : decode cX2_cellsShared 16 = .ok (.aload_n 1, 1) := by decide +kernel
set_option maxRecDepth 20000 in
theorem dX2_cellsShared_17 : decode cX2_cellsShared 17 = .ok (.getfield 38, 3) := by decide +kernel
set_option maxRecDepth 20000 in
theorem dX2_cellsShared_20 : decode cX2_cellsShared 20 = .ok (.land, 1) := by decide +kernel
set_option maxRecDepth 20000 in
theorem dX2_cellsShared_21 : decode cX2_cellsShared 21 = .ok (.invokestatic 52, 3) := by decide +kernel
set_option maxRecDepth 20000 in
theorem dX2_cellsShared_24 : decode cX2_cellsShared 24 = .ok (.iadd, 1) := by decide +kernel
set_option maxRecDepth 20000 in
theorem dX2_cellsShared_25 : decode cX2_cellsShared 25 = .ok (.ireturn, 1) := by decide +kernel
set_option maxRecDepth 20000 in
theorem dX3_init_0 : decode cX3_init 0 = .ok (.aload_n 0, 1) := by decide +kernel
set_option maxRecDepth 20000 in
theorem dX3_init_1 : decode cX3_init 1 = .ok (.invokespecial 3, 3) := by decide +kernel
set_option maxRecDepth 20000 in
theorem dX3_init_4 : decode cX3_init 4 = .ok (.aload_n 0, 1) := by decide +kernel
set_option maxRecDepth 20000 in
theorem dX3_init_5 : decode cX3_init 5 = .ok (.bipush 40, 2) := by decide +kernel
set_option maxRecDepth 20000 in
theorem dX3_init_7 : decode cX3_init 7 = .ok (.newarray .int, 2) := by decide +kernel
set_option maxRecDepth 20000 in
theorem dX3_init_9 : decode cX3_init 9 = .ok (.putfield 9, 3) := by decide +kernel
set_option maxRecDepth 20000 in
theorem dX3_init_12 : decode cX3_init 12 = .ok (.aload_n 0, 1) := by decide +kernel
set_option maxRecDepth 20000 in
theorem dX3_init_13 : decode cX3_init 13 = .ok (.iconst (-1), 1) := by decide +kernel
set_option maxRecDepth 20000 in
theorem dX3_init_14 : decode cX3_init 14 = .ok (.putfield 15, 3) := by decide +kernel
set_option maxRecDepth 20000 in
theorem dX3_init_17 : decode cX3_init 17 = .ok (.return_, 1) := by decide +kernel
set_option maxRecDepth 20000 in
theorem dX3_renew_0 : decode cX3_renew 0 = .ok (.aload_n 0, 1) := by decide +kernel
set_option maxRecDepth 20000 in
theorem dX3_renew_1 : decode cX3_renew 1 = .ok (.getfield 9, 3) := by decide +kernel
set_option maxRecDepth 20000 in
theorem dX3_renew_4 : decode cX3_renew 4 = .ok (.iconst 0, 1) := by decide +kernel
set_option maxRecDepth 20000 in
theorem dX3_renew_5 : decode cX3_renew 5 = .ok (.invokestatic 19, 3) := by decide +kernel
set_option maxRecDepth 20000 in
theorem dX3_renew_8 : decode cX3_renew 8 = .ok (.aload_n 0, 1) := by decide +kernel
set_option maxRecDepth 20000 in
theorem dX3_renew_9 : decode cX3_renew 9 = .ok (.iload_n 1, 1) := by decide +kernel
set_option maxRecDepth 20000 in
theorem dX3_renew_10 : decode cX3_renew 10 = .ok (.putfield 15, 3) := by decide +kernel
set_option maxRecDepth 20000 in
theorem dX3_renew_13 : decode cX3_renew 13 = .ok (.return_, 1) := by decide +kernel
set_option maxRecDepth 20000 in
theorem dX3_hasPlaces_0 : decode cX3_hasPlaces 0 = .ok (.iload_n 1, 1) := by decide +kernel
set_option maxRecDepth 20000 in
theorem dX3_hasPlaces_1 : decode cX3_hasPlaces 1 = .ok (.ifCond .lt 17, 3) := by decide +kernel
set_option maxRecDepth 20000 in
theorem dX3_hasPlaces_4 : decode cX3_hasPlaces 4 = .ok (.iload_n 1, 1) := by decide +kernel
set_option maxRecDepth 20000 in
theorem dX3_hasPlaces_5 : decode cX3_hasPlaces 5 = .ok (.aload_n 0, 1) := by decide +kernel
set_option maxRecDepth 20000 in
theorem dX3_hasPlaces_6 : decode cX3_hasPlaces 6 = .ok (.getfield 15, 3) := by decide +kernel
set_option maxRecDepth 20000 in
theorem dX3_hasPlaces_9 : decode cX3_hasPlaces 9 = .ok (.iload_n 2, 1) := by decide +kernel
set_option maxRecDepth 20000 in
theorem dX3_hasPlaces_10 : decode cX3_hasPlaces 10 = .ok (.isub, 1) := by decide +kernel
set_option maxRecDepth 20000 in
theorem dX3_hasPlaces_11 : decode cX3_hasPlaces 11 = .ok (.if_icmp .gt 7, 3) := by decide +kernel
set_option maxRecDepth 20000 in
theorem dX3_hasPlaces_14 : decode cX3_hasPlaces 14 = .ok (.iconst 1, 1) := by decide +kernel
set_option maxRecDepth 20000 in
theorem dX3_hasPlaces_15 : decode cX3_hasPlaces 15 = .ok (.goto 4, 3) := by decide +kernel
set_option maxRecDepth 20000 in
theorem dX3_hasPlaces_18 : decode cX3_hasPlaces 18 = .ok (.iconst 0, 1) := by decide +kernel
set_option maxRecDepth 20000 in
theorem dX3_hasPlaces_19 : decode cX3_hasPlaces 19 = .ok (.ireturn, 1) := by decide +kernel
set_option maxRecDepth 20000 in
theorem dX3_sum_0 : decode cX3_sum 0 = .ok (.lconst 0, 1) := by decide +kernel
set_option maxRecDepth 20000 in
theorem dX3_sum_1 : decode cX3_sum 1 = .ok (.lstore_n 1, 1) := by decide +kernel
set_option maxRecDepth 20000 in
theorem dX3_sum_2 : decode cX3_sum 2 = .ok (.iconst 0, 1) := by decide +kernel
set_option maxRecDepth 20000 in
theorem dX3_sum_3 : decode cX3_sum 3 = .ok (.istore_n 3, 1) := by decide +kernel
set_option maxRecDepth 20000 in
theorem dX3_sum_4 : decode cX3_sum 4 = .ok (.iload_n 3, 1) := by decide +kernel
set_option maxRecDepth 20000 in
theorem dX3_sum_5 : decode cX3_sum 5 = .ok (.aload_n 0, 1) := by decide +kernel
set_option maxRecDepth 20000 in
theorem dX3_sum_6 : decode cX3_sum 6 = .ok (.getfield 15, 3) := by decide +kernel
set_option maxRecDepth 20000 in
theorem dX3_sum_9 : decode cX3_sum 9 = .ok (.if_icmp .ge 19, 3) := by decide +kernel
set_option maxRecDepth 20000 in
theorem dX3_sum_12 : decode cX3_sum 12 = .ok (.lload_n 1, 1) := by decide +kernel
set_option maxRecDepth 20000 in
theorem dX3_sum_13 : decode cX3_sum 13 = .ok (.aload_n 0, 1) := by decide +kernel
set_option maxRecDepth 20000 in
theorem dX3_sum_14 : decode cX3_sum 14 = .ok (.getfield 9, 3) := by decide +kernel
set_option maxRecDepth 20000 in
theorem dX3_sum_17 : decode cX3_sum 17 = .ok (.iload_n 3, 1) := by decide +kernel
set_option maxRecDepth 20000 in
theorem dX3_sum_18 : decode cX3_sum 18 = .ok (.iaload, 1) := by decide +kernel
set_option maxRecDepth 20000 in
theorem dX3_sum_19 : decode cX3_sum 19 = .ok (.i2l, 1) := by decide +kernel
set_option maxRecDepth 20000 in
theorem dX3_sum_20 : decode cX3_sum 20 = .ok (.ladd, 1) := by decide +kernel
set_option maxRecDepth 20000 in
theorem dX3_sum_21 : decode cX3_sum 21 = .ok (.lstore_n 1, 1) := by decide +kernel
set_option maxRecDepth 20000 in
theorem dX3_sum_22 : decode cX3_sum 22 = .ok (.iinc 3 1, 3) := by decide +kernel
set_option maxRecDepth 20000 in
theorem dX3_sum_25 : decode cX3_sum 25 = .ok (.goto (-21), 3) := by decide +kernel
set_option maxRecDepth 20000 in
theorem dX3_sum_28 : decode cX3_sum 28 = .ok (.lload_n 1, 1) := by decide +kernel
set_option maxRecDepth 20000 in
theorem dX3_sum_29 : decode cX3_sum 29 = .ok (.lreturn, 1) := by decide +kernel
set_option maxRecDepth 20000 in
theorem dX3_digestFrom_0 : decode cX3_digestFrom 0 = .ok (.ldc2_w 25, 3) := by decide +kernel
set_option maxRecDepth 20000 in
theorem dX3_digestFrom_3 : decode cX3_digestFrom 3 = .ok (.lload_n 1, 1) := by decide +kernel
set_option maxRecDepth 20000 in
theorem dX3_digestFrom_4 : decode cX3_digestFrom 4 = .ok (.lmul, 1) := by decide +kernel
set_option maxRecDepth 20000 in
theorem dX3_digestFrom_5 : decode cX3_digestFrom 5 = .ok (.aload_n 0, 1) := by decide +kernel
set_option maxRecDepth 20000 in
theorem dX3_digestFrom_6 : decode cX3_digestFrom 6 = .ok (.getfield 15, 3) := by decide +kernel
set_option maxRecDepth 20000 in
theorem dX3_digestFrom_9 : decode cX3_digestFrom 9 = .ok (.i2l, 1) := by decide +kernel
set_option maxRecDepth 20000 in
theorem dX3_digestFrom_10 : decode cX3_digestFrom 10 = .ok (.ladd, 1) := by decide +kernel
set_option maxRecDepth 20000 in
theorem dX3_digestFrom_11 : decode cX3_digestFrom 11 = .ok (.lstore_n 3, 1) := by decide +kernel
set_option maxRecDepth 20000 in
theorem dX3_digestFrom_12 : decode cX3_digestFrom 12 = .ok (.iconst 0, 1) := by decide +kernel
set_option maxRecDepth 20000 in
theorem dX3_digestFrom_13 : decode cX3_digestFrom 13 = .ok (.istore 5, 2) := by decide +kernel
set_option maxRecDepth 20000 in
theorem dX3_digestFrom_15 : decode cX3_digestFrom 15 = .ok (.iload 5, 2) := by decide +kernel
set_option maxRecDepth 20000 in
theorem dX3_digestFrom_17 : decode cX3_digestFrom 17 = .ok (.aload_n 0, 1) := by decide +kernel
set_option maxRecDepth 20000 in
theorem dX3_digestFrom_18 : decode cX3_digestFrom 18 = .ok (.getfield 15, 3) := by decide +kernel
set_option maxRecDepth 20000 in
theorem dX3_digestFrom_21 : decode cX3_digestFrom 21 = .ok (.if_icmp .ge 24, 3) := by decide +kernel
set_option maxRecDepth 20000 in
theorem dX3_digestFrom_24 : decode cX3_digestFrom 24 = .ok (.ldc2_w 25, 3) := by decide +kernel
set_option maxRecDepth 20000 in
theorem dX3_digestFrom_27 : decode cX3_digestFrom 27 = .ok (.lload_n 3, 1) := by decide +kernel
set_option maxRecDepth 20000 in
theorem dX3_digestFrom_28 : decode cX3_digestFrom 28 = .ok (.lmul, 1) := by decide +kernel
set_option maxRecDepth 20000 in
theorem dX3_digestFrom_29 : decode cX3_digestFrom 29 = .ok (.aload_n 0, 1) := by decide +kernel
set_option maxRecDepth 20000 in
theorem dX3_digestFrom_30 : decode cX3_digestFrom 30 = .ok (.getfield 9, 3) := by decide +kernel
set_option maxRecDepth 20000 in
theorem dX3_digestFrom_33 : decode cX3_digestFrom 33 = .ok (.iload 5, 2) := by decide +kernel
set_option maxRecDepth 20000 in
theorem dX3_digestFrom_35 : decode cX3_digestFrom 35 = .ok (.iaload, 1) := by decide +kernel
set_option maxRecDepth 20000 in
theorem dX3_digestFrom_36 : decode cX3_digestFrom 36 = .ok (.i2l, 1) := by decide +kernel
set_option maxRecDepth 20000 in
theorem dX3_digestFrom_37 : decode cX3_digestFrom 37 = .ok (.ladd, 1) := by decide +kernel
set_option maxRecDepth 20000 in
theorem dX3_digestFrom_38 : decode cX3_digestFrom 38 = .ok (.lstore_n 3, 1) := by decide +kernel
set_option maxRecDepth 20000 in
theorem dX3_digestFrom_39 : decode cX3_digestFrom 39 = .ok (.iinc 5 1, 3) := by decide +kernel
set_option maxRecDepth 20000 in
theorem dX3_digestFrom_42 : decode cX3_digestFrom 42 = .ok (.goto (-27), 3) := by decide +kernel
set_option maxRecDepth 20000 in
theorem dX3_digestFrom_45 : decode cX3_digestFrom 45 = .ok (.lload_n 3, 1) := by decide +kernel
set_option maxRecDepth 20000 in
theorem dX3_digestFrom_46 : decode cX3_digestFrom 46 = .ok (.lreturn, 1) := by decide +kernel
set_option maxRecDepth 20000 in
theorem dX4_init_0 : decode cX4_init 0 = .ok (.aload_n 0, 1) := by decide +kernel
set_option maxRecDepth 20000 in
theorem dX4_init_1 : decode cX4_init 1 = .ok (.invokespecial 3, 3) := by decide +kernel
set_option maxRecDepth 20000 in
theorem dX4_init_4 : decode cX4_init 4 = .ok (.aload_n 0, 1) := by decide +kernel
set_option maxRecDepth 20000 in
theorem dX4_init_5 : decode cX4_init 5 = .ok (.bipush 7, 2) := by decide +kernel
set_option maxRecDepth 20000 in
theorem dX4_init_7 : decode cX4_init 7 = .ok (.anewarray 9, 3) := by decide +kernel
set_option maxRecDepth 20000 in
theorem dX4_init_10 : decode cX4_init 10 = .ok (.putfield 11, 3) := by decide +kernel
set_option maxRecDepth 20000 in
theorem dX4_init_13 : decode cX4_init 13 = .ok (.aload_n 0, 1) := by decide +kernel
set_option maxRecDepth 20000 in
theorem dX4_init_14 : decode cX4_init 14 = .ok (.iconst 0, 1) := by decide +kernel
set_option maxRecDepth 20000 in
theorem dX4_init_15 : decode cX4_init 15 = .ok (.putfield 17, 3) := by decide +kernel
set_option maxRecDepth 20000 in
theorem dX4_init_18 : decode cX4_init 18 = .ok (.iconst 0, 1) := by decide +kernel
set_option maxRecDepth 20000 in
theorem dX4_init_19 : decode cX4_init 19 = .ok (.istore_n 1, 1) := by decide +kernel
set_option maxRecDepth 20000 in
theorem dX4_init_20 : decode cX4_init 20 = .ok (.iload_n 1, 1) := by decide +kernel
set_option maxRecDepth 20000 in
theorem dX4_init_21 : decode cX4_init 21 = .ok (.bipush 7, 2) := by decide +kernel
set_option maxRecDepth 20000 in
theorem dX4_init_23 : decode cX4_init 23 = .ok (.if_icmp .ge 22, 3) := by decide +kernel
set_option maxRecDepth 20000 in
theorem dX4_init_26 : decode cX4_init 26 = .ok (.aload_n 0, 1) := by decide +kernel
set_option maxRecDepth 20000 in
theorem dX4_init_27 : decode cX4_init 27 = .ok (.getfield 11, 3) := by decide +kernel
set_option maxRecDepth 20000 in
theorem dX4_init_30 : decode cX4_init 30 = .ok (.iload_n 1, 1) := by decide +kernel
set_option maxRecDepth 20000 in
theorem dX4_init_31 : decode cX4_init 31 = .ok (.new 9, 3) := by decide +kernel
set_option maxRecDepth 20000 in
theorem dX4_init_34 : decode cX4_init 34 = .ok (.dup, 1) := by decide +kernel
set_option maxRecDepth 20000 in
theorem dX4_init_35 : decode cX4_init 35 = .ok (.invokespecial 21, 3) := by decide +kernel
set_option maxRecDepth 20000 in
theorem dX4_init_38 : decode cX4_init 38 = .ok (.aastore, 1) := by decide +kernel
set_option maxRecDepth 20000 in
theorem dX4_init_39 : decode cX4_init 39 = .ok (.iinc 1 1, 3) := by decide +kernel
set_option maxRecDepth 20000 in
theorem dX4_init_42 : decode cX4_init 42 = .ok (.goto (-22), 3) := by decide +kernel
set_option maxRecDepth 20000 in
theorem dX4_init_45 : decode cX4_init 45 = .ok (.return_, 1) := by decide +kernel
set_option maxRecDepth 20000 in
theorem dX4_has_0 : decode cX4_has 0 = .ok (.iload_n 1, 1) := by decide +kernel
set_option maxRecDepth 20000 in
theorem dX4_has_1 : decode cX4_has 1 = .ok (.ifCond .lt 15, 3) := by decide +kernel
set_option maxRecDepth 20000 in
theorem dX4_has_4 : decode cX4_has 4 = .ok (.iload_n 1, 1) := by decide +kernel
set_option maxRecDepth 20000 in
theorem dX4_has_5 : decode cX4_has 5 = .ok (.aload_n 0, 1) := by decide +kernel
set_option maxRecDepth 20000 in
theorem dX4_has_6 : decode cX4_has 6 = .ok (.getfield 17, 3) := by decide +kernel
set_option maxRecDepth 20000 in
theorem dX4_has_9 : decode cX4_has 9 = .ok (.if_icmp .ge 7, 3) := by decide +kernel
set_option maxRecDepth 20000 in
theorem dX4_has_12 : decode cX4_has 12 = .ok (.iconst 1, 1) := by decide +kernel
set_option maxRecDepth 20000 in
theorem dX4_has_13 : decode cX4_has 13 = .ok (.goto 4, 3) := by decide +kernel
set_option maxRecDepth 20000 in
theorem dX4_has_16 : decode cX4_has 16 = .ok (.iconst 0, 1) := by decide +kernel
set_option maxRecDepth 20000 in
theorem dX4_has_17 : decode cX4_has 17 = .ok (.ireturn, 1) := by decide +kernel
set_option maxRecDepth 20000 in
theorem dX4_become_0 : decode cX4_become 0 = .ok (.aload_n 0, 1) := by decide +kernel
set_option maxRecDepth 20000 in
theorem dX4_become_1 : decode cX4_become 1 = .ok (.aload_n 1, 1) := by decide +kernel
set_option maxRecDepth 20000 in
theorem dX4_become_2 : decode cX4_become 2 = .ok (.getfield 17, 3) := by decide +kernel
set_option maxRecDepth 20000 in
theorem dX4_become_5 : decode cX4_become 5 = .ok (.putfield 17, 3) := by decide +kernel
set_option maxRecDepth 20000 in
theorem dX4_become_8 : decode cX4_become 8 = .ok (.iconst 0, 1) := by decide +kernel
set_option maxRecDepth 20000 in
theorem dX4_become_9 : decode cX4_become 9 = .ok (.istore_n 2, 1) := by decide +kernel
set_option maxRecDepth 20000 in
theorem dX4_become_10 : decode cX4_become 10 = .ok (.iload_n 2, 1) := by decide +kernel
set_option maxRecDepth 20000 in
theorem dX4_become_11 : decode cX4_become 11 = .ok (.aload_n 0, 1) := by decide +kernel
set_option maxRecDepth 20000 in
theorem dX4_become_12 : decode cX4_become 12 = .ok (.getfield 17, 3) := by decide +kernel
set_option maxRecDepth 20000 in
theorem dX4_become_15 : decode cX4_become 15 = .ok (.if_icmp .ge 24, 3) := by decide +kernel
set_option maxRecDepth 20000 in
theorem dX4_become_18 : decode cX4_become 18 = .ok (.aload_n 0, 1) := by decide +kernel
set_option maxRecDepth 20000 in
theorem dX4_become_19 : decode cX4_become 19 = .ok (.getfield 11, 3) := by decide +kernel
set_option maxRecDepth 20000 in
theorem dX4_become_22 : decode cX4_become 22 = .ok (.iload_n 2, 1) := by decide +kernel
set_option maxRecDepth 20000 in
theorem dX4_become_23 : decode cX4_become 23 = .ok (.aaload, 1) := by decide +kernel
set_option maxRecDepth 20000 in
theorem dX4_become_24 : decode cX4_become 24 = .ok (.aload_n 1, 1) := by decide +kernel
set_option maxRecDepth 20000 in
theorem dX4_become_25 : decode cX4_become 25 = .ok (.getfield 11, 3) := by decide +kernel
set_option maxRecDepth 20000 in
theorem dX4_become_28 : decode cX4_become 28 = .ok (.iload_n 2, 1) := by decide +kernel
set_option maxRecDepth 20000 in
theorem dX4_become_29 : decode cX4_become 29 = .ok (.aaload, 1) := by decide +kernel
set_option maxRecDepth 20000 in
theorem dX4_become_30 : decode cX4_become 30 = .ok (.invokevirtual 22, 3) := by decide +kernel
set_option maxRecDepth 20000 in
theorem dX4_become_33 : decode cX4_become 33 = .ok (.iinc 2 1, 3) := by decide +kernel
set_option maxRecDepth 20000 in
theorem dX4_become_36 : decode cX4_become 36 = .ok (.goto (-26), 3) := by decide +kernel
set_option maxRecDepth 20000 in
theorem dX4_become_39 : decode cX4_become 39 = .ok (.return_, 1) := by decide +kernel
set_option maxRecDepth 20000 in
theorem dX4_placeAt_0 : decode cX4_placeAt 0 = .ok (.aload_n 0, 1) := by decide +kernel
set_option maxRecDepth 20000 in
theorem dX4_placeAt_1 : decode cX4_placeAt 1 = .ok (.getfield 11, 3) := by decide +kernel
set_option maxRecDepth 20000 in
theorem dX4_placeAt_4 : decode cX4_placeAt 4 = .ok (.iload_n 1, 1) := by decide +kernel
set_option maxRecDepth 20000 in
theorem dX4_placeAt_5 : decode cX4_placeAt 5 = .ok (.aaload, 1) := by decide +kernel
set_option maxRecDepth 20000 in
theorem dX4_placeAt_6 : decode cX4_placeAt 6 = .ok (.getfield 26, 3) := by decide +kernel
set_option maxRecDepth 20000 in
theorem dX4_placeAt_9 : decode cX4_placeAt 9 = .ok (.istore_n 3, 1) := by decide +kernel
set_option maxRecDepth 20000 in
theorem dX4_placeAt_10 : decode cX4_placeAt 10 = .ok (.iconst 0, 1) := by decide +kernel
set_option maxRecDepth 20000 in
theorem dX4_placeAt_11 : decode cX4_placeAt 11 = .ok (.istore 4, 2) := by decide +kernel
set_option maxRecDepth 20000 in
theorem dX4_placeAt_13 : decode cX4_placeAt 13 = .ok (.iload 4, 2) := by decide +kernel
set_option maxRecDepth 20000 in
theorem dX4_placeAt_15 : decode cX4_placeAt 15 = .ok (.aload_n 0, 1) := by decide +kernel
set_option maxRecDepth 20000 in
theorem dX4_placeAt_16 : decode cX4_placeAt 16 = .ok (.getfield 17, 3) := by decide +kernel
set_option maxRecDepth 20000 in
theorem dX4_placeAt_19 : decode cX4_placeAt 19 = .ok (.if_icmp .ge 76, 3) := by decide +kernel
set_option maxRecDepth 20000 in
theorem dX4_placeAt_22 : decode cX4_placeAt 22 = .ok (.aload_n 0, 1) := by decide +kernel
set_option maxRecDepth 20000 in
theorem dX4_placeAt_23 : decode cX4_placeAt 23 = .ok (.getfield 11, 3) := by decide +kernel
set_option maxRecDepth 20000 in
theorem dX4_placeAt_26 : decode cX4_placeAt 26 = .ok (.iload 4, 2) := by decide +kernel
set_option maxRecDepth 20000 in
theorem dX4_placeAt_28 : decode cX4_placeAt 28 = .ok (.aaload, 1) := by decide +kernel
set_option maxRecDepth 20000 in
theorem dX4_placeAt_29 : decode cX4_placeAt 29 = .ok (.getfield 26, 3) := by decide +kernel
set_option maxRecDepth 20000 in
theorem dX4_placeAt_32 : decode cX4_placeAt 32 = .ok (.istore 5, 2) := by decide +kernel
set_option maxRecDepth 20000 in
theorem dX4_placeAt_34 : decode cX4_placeAt 34 = .ok (.iload_n 3, 1) := by decide +kernel
set_option maxRecDepth 20000 in
theorem dX4_placeAt_35 : decode cX4_placeAt 35 = .ok (.iload 5, 2) := by decide +kernel
set_option maxRecDepth 20000 in
theorem dX4_placeAt_37 : decode cX4_placeAt 37 = .ok (.if_icmp .ge 26, 3) := by decide +kernel
set_option maxRecDepth 20000 in
theorem dX4_placeAt_40 : decode cX4_placeAt 40 = .ok (.iload 5, 2) := by decide +kernel
set_option maxRecDepth 20000 in
theorem dX4_placeAt_42 : decode cX4_placeAt 42 = .ok (.iload_n 2, 1) := by decide +kernel
set_option maxRecDepth 20000 in
theorem dX4_placeAt_43 : decode cX4_placeAt 43 = .ok (.if_icmp .gt 20, 3) := by decide +kernel
set_option maxRecDepth 20000 in
theorem dX4_placeAt_46 : decode cX4_placeAt 46 = .ok (.aload_n 0, 1) := by decide +kernel
set_option maxRecDepth 20000 in
theorem dX4_placeAt_47 : decode cX4_placeAt 47 = .ok (.getfield 11, 3) := by decide +kernel
set_option maxRecDepth 20000 in
theorem dX4_placeAt_50 : decode cX4_placeAt 50 = .ok (.iload 4, 2) := by decide +kernel
set_option maxRecDepth 20000 in
theorem dX4_placeAt_52 : decode cX4_placeAt 52 = .ok (.aaload, 1) := by decide +kernel
set_option maxRecDepth 20000 in
theorem dX4_placeAt_53 : decode cX4_placeAt 53 = .ok (.iload 5, 2) := by decide +kernel
set_option maxRecDepth 20000 in
theorem dX4_placeAt_55 : decode cX4_placeAt 55 = .ok (.iconst 1, 1) := by decide +kernel
set_option maxRecDepth 20000 in
theorem dX4_placeAt_56 : decode cX4_placeAt 56 = .ok (.isub, 1) := by decide +kernel
set_option maxRecDepth 20000 in
theorem dX4_placeAt_57 : decode cX4_placeAt 57 = .ok (.putfield 26, 3) := by decide +kernel
set_option maxRecDepth 20000 in
theorem dX4_placeAt_60 : decode cX4_placeAt 60 = .ok (.goto 29, 3) := by decide +kernel
set_option maxRecDepth 20000 in
theorem dX4_placeAt_63 : decode cX4_placeAt 63 = .ok (.iload_n 2, 1) := by decide +kernel
set_option maxRecDepth 20000 in
theorem dX4_placeAt_64 : decode cX4_placeAt 64 = .ok (.iload 5, 2) := by decide +kernel
set_option maxRecDepth 20000 in
theorem dX4_placeAt_66 : decode cX4_placeAt 66 = .ok (.if_icmp .gt 23, 3) := by decide +kernel
set_option maxRecDepth 20000 in
theorem dX4_placeAt_69 : decode cX4_placeAt 69 = .ok (.iload 5, 2) := by decide +kernel
set_option maxRecDepth 20000 in
theorem dX4_placeAt_71 : decode cX4_placeAt 71 = .ok (.iload_n 3, 1) := by decide +kernel
set_option maxRecDepth 20000 in
theorem dX4_placeAt_72 : decode cX4_placeAt 72 = .ok (.if_icmp .ge 17, 3) := by decide +kernel
set_option maxRecDepth 20000 in
theorem dX4_placeAt_75 : decode cX4_placeAt 75 = .ok (.aload_n 0, 1) := by decide +kernel
set_option maxRecDepth 20000 in
theorem dX4_placeAt_76 : decode cX4_placeAt 76 = .ok (.getfield 11, 3) := by decide +kernel
set_option maxRecDepth 20000 in
theorem dX4_placeAt_79 : decode cX4_placeAt 79 = .ok (.iload 4, 2) := by decide +kernel
set_option maxRecDepth 20000 in
theorem dX4_placeAt_81 : decode cX4_placeAt 81 = .ok (.aaload, 1) := by decide +kernel
set_option maxRecDepth 20000 in
theorem dX4_placeAt_82 : decode cX4_placeAt 82 = .ok (.iload 5, 2) := by decide +kernel
set_option maxRecDepth 20000 in
theorem dX4_placeAt_84 : decode cX4_placeAt 84 = .ok (.iconst 1, 1) := by decide +kernel
set_option maxRecDepth 20000 in
theorem dX4_placeAt_85 : decode cX4_placeAt 85 = .ok (.iadd, 1) := by decide +kernel
set_option maxRecDepth 20000 in
theorem dX4_placeAt_86 : decode cX4_placeAt 86 = .ok (.putfield 26, 3) := by decide +kernel
set_option maxRecDepth 20000 in
theorem dX4_placeAt_89 : decode cX4_placeAt 89 = .ok (.iinc 4 1, 3) := by decide +kernel
set_option maxRecDepth 20000 in
theorem dX4_placeAt_92 : decode cX4_placeAt 92 = .ok (.goto (-79), 3) := by decide +kernel
set_option maxRecDepth 20000 in
theorem dX4_placeAt_95 : decode cX4_placeAt 95 = .ok (.aload_n 0, 1) := by decide +kernel
set_option maxRecDepth 20000 in
theorem dX4_placeAt_96 : decode cX4_placeAt 96 = .ok (.getfield 11, 3) := by decide +kernel
set_option maxRecDepth 20000 in
theorem dX4_placeAt_99 : decode cX4_placeAt 99 = .ok (.iload_n 1, 1) := by decide +kernel
set_option maxRecDepth 20000 in
theorem dX4_placeAt_100 : decode cX4_placeAt 100 = .ok (.aaload, 1) := by decide +kernel
set_option maxRecDepth 20000 in
theorem dX4_placeAt_101 : decode cX4_placeAt 101 = .ok (.iload_n 2, 1) := by decide +kernel
set_option maxRecDepth 20000 in
theorem dX4_placeAt_102 : decode cX4_placeAt 102 = .ok (.putfield 26, 3) := by decide +kernel
set_option maxRecDepth 20000 in
theorem dX4_placeAt_105 : decode cX4_placeAt 105 = .ok (.return_, 1) := by decide +kernel
set_option maxRecDepth 20000 in
theorem dX4_after_0 : decode cX4_after 0 = .ok (.iconst 0, 1) := by decide +kernel
set_option maxRecDepth 20000 in
theorem dX4_after_1 : decode cX4_after 1 = .ok (.istore_n 2, 1) := by decide +kernel
set_option maxRecDepth 20000 in
theorem dX4_after_2 : decode cX4_after 2 = .ok (.iconst 0, 1) := by decide +kernel
set_option maxRecDepth 20000 in
theorem dX4_after_3 : decode cX4_after 3 = .ok (.istore_n 3, 1) := by decide +kernel
set_option maxRecDepth 20000 in
theorem dX4_after_4 : decode cX4_after 4 = .ok (.iload_n 3, 1) := by decide +kernel
set_option maxRecDepth 20000 in
theorem dX4_after_5 : decode cX4_after 5 = .ok (.aload_n 0, 1) := by decide +kernel
set_option maxRecDepth 20000 in
theorem dX4_after_6 : decode cX4_after 6 = .ok (.getfield 17, 3) := by decide +kernel
set_option maxRecDepth 20000 in
theorem dX4_after_9 : decode cX4_after 9 = .ok (.if_icmp .ge 36, 3) := by decide +kernel
set_option maxRecDepth 20000 in
theorem dX4_after_12 : decode cX4_after 12 = .ok (.aload_n 0, 1) := by decide +kernel
set_option maxRecDepth 20000 in
theorem dX4_after_13 : decode cX4_after 13 = .ok (.getfield 11, 3) := by decide +kernel
set_option maxRecDepth 20000 in
theorem dX4_after_16 : decode cX4_after 16 = .ok (.iload_n 3, 1) := by decide +kernel
set_option maxRecDepth 20000 in
theorem dX4_after_17 : decode cX4_after 17 = .ok (.aaload, 1) := by decide +kernel
set_option maxRecDepth 20000 in
theorem dX4_after_18 : decode cX4_after 18 = .ok (.getfield 26, 3) := by decide +kernel
set_option maxRecDepth 20000 in
theorem dX4_after_21 : decode cX4_after 21 = .ok (.aload_n 0, 1) := by decide +kernel
set_option maxRecDepth 20000 in
theorem dX4_after_22 : decode cX4_after 22 = .ok (.getfield 11, 3) := by decide +kernel
set_option maxRecDepth 20000 in
theorem dX4_after_25 : decode cX4_after 25 = .ok (.iload_n 1, 1) := by decide +kernel
set_option maxRecDepth 20000 in
theorem dX4_after_26 : decode cX4_after 26 = .ok (.aaload, 1) := by decide +kernel
set_option maxRecDepth 20000 in
theorem dX4_after_27 : decode cX4_after 27 = .ok (.getfield 26, 3) := by decide +kernel
set_option maxRecDepth 20000 in
theorem dX4_after_30 : decode cX4_after 30 = .ok (.if_icmp .le 9, 3) := by decide +kernel
set_option maxRecDepth 20000 in
theorem dX4_after_33 : decode cX4_after 33 = .ok (.iload_n 2, 1) := by decide +kernel
set_option maxRecDepth 20000 in
theorem dX4_after_34 : decode cX4_after 34 = .ok (.iconst 1, 1) := by decide +kernel
set_option maxRecDepth 20000 in
theorem dX4_after_35 : decode cX4_after 35 = .ok (.iload_n 3, 1) := by decide +kernel
set_option maxRecDepth 20000 in
theorem dX4_after_36 : decode cX4_after 36 = .ok (.ishl, 1) := by decide +kernel
set_option maxRecDepth 20000 in
theorem dX4_after_37 : decode cX4_after 37 = .ok (.ior, 1) := by decide +kernel
set_option maxRecDepth 20000 in
theorem dX4_after_38 : decode cX4_after 38 = .ok (.istore_n 2, 1) := by decide +kernel
set_option maxRecDepth 20000 in
theorem dX4_after_39 : decode cX4_after 39 = .ok (.iinc 3 1, 3) := by decide +kernel
set_option maxRecDepth 20000 in
theorem dX4_after_42 : decode cX4_after 42 = .ok (.goto (-38), 3) := by decide +kernel
set_option maxRecDepth 20000 in
theorem dX4_after_45 : decode cX4_after 45 = .ok (.iload_n 2, 1) := by decide +kernel
set_option maxRecDepth 20000 in
theorem dX4_after_46 : decode cX4_after 46 = .ok (.ireturn, 1) := by decide +kernel
set_option maxRecDepth 20000 in
theorem dX4_notTopAfter_0 : decode cX4_notTopAfter 0 = .ok (.iconst 0, 1) := by decide +kernel
set_option maxRecDepth 20000 in
theorem dX4_notTopAfter_1 : decode cX4_notTopAfter 1 = .ok (.istore_n 2, 1) := by decide +kernel
set_option maxRecDepth 20000 in
theorem dX4_notTopAfter_2 : decode cX4_notTopAfter 2 = .ok (.iconst 0, 1) := by decide +kernel
set_option maxRecDepth 20000 in
theorem dX4_notTopAfter_3 : decode cX4_notTopAfter 3 = .ok (.istore_n 3, 1) := by decide +kernel
set_option maxRecDepth 20000 in
theorem dX4_notTopAfter_4 : decode cX4_notTopAfter 4 = .ok (.iload_n 3, 1) := by decide +kernel
set_option maxRecDepth 20000 in
theorem dX4_notTopAfter_5 : decode cX4_notTopAfter 5 = .ok (.aload_n 0, 1) := by decide +kernel
set_option maxRecDepth 20000 in
theorem dX4_notTopAfter_6 : decode cX4_notTopAfter 6 = .ok (.getfield 17, 3) := by decide +kernel
set_option maxRecDepth 20000 in
theorem dX4_notTopAfter_9 : decode cX4_notTopAfter 9 = .ok (.if_icmp .ge 51, 3) := by decide +kernel
set_option maxRecDepth 20000 in
theorem dX4_notTopAfter_12 : decode cX4_notTopAfter 12 = .ok (.iload_n 2, 1) := by decide +kernel
set_option maxRecDepth 20000 in
theorem dX4_notTopAfter_13 : decode cX4_notTopAfter 13 = .ok (.aload_n 0, 1) := by decide +kernel
set_option maxRecDepth 20000 in
theorem dX4_notTopAfter_14 : decode cX4_notTopAfter 14 = .ok (.getfield 11, 3) := by decide +kernel
set_option maxRecDepth 20000 in
theorem dX4_notTopAfter_17 : decode cX4_notTopAfter 17 = .ok (.iload_n 3, 1) := by decide +kernel
set_option maxRecDepth 20000 in
theorem dX4_notTopAfter_18 : decode cX4_notTopAfter 18 = .ok (.aaload, 1) := by decide +kernel
set_option maxRecDepth 20000 in
theorem dX4_notTopAfter_19 : decode cX4_notTopAfter 19 = .ok (.getfield 26, 3) := by decide +kernel
set_option maxRecDepth 20000 in
theorem dX4_notTopAfter_22 : decode cX4_notTopAfter 22 = .ok (.aload_n 0, 1) := by decide +kernel
set_option maxRecDepth 20000 in
theorem dX4_notTopAfter_23 : decode cX4_notTopAfter 23 = .ok (.getfield 11, 3) := by decide +kernel
set_option maxRecDepth 20000 in
theorem dX4_notTopAfter_26 : decode cX4_notTopAfter 26 = .ok (.iload_n 1, 1) := by decide +kernel
set_option maxRecDepth 20000 in
theorem dX4_notTopAfter_27 : decode cX4_notTopAfter 27 = .ok (.aaload, 1) := by decide +kernel
set_option maxRecDepth 20000 in
theorem dX4_notTopAfter_28 : decode cX4_notTopAfter 28 = .ok (.getfield 26, 3) := by decide +kernel
set_option maxRecDepth 20000 in
theorem dX4_notTopAfter_31 : decode cX4_notTopAfter 31 = .ok (.if_icmp .le 20, 3) := by decide +kernel
set_option maxRecDepth 20000 in
theorem dX4_notTopAfter_34 : decode cX4_notTopAfter 34 = .ok (.aload_n 0, 1) := by decide +kernel
set_option maxRecDepth 20000 in
theorem dX4_notTopAfter_35 : decode cX4_notTopAfter 35 = .ok (.getfield 11, 3) := by decide +kernel
set_option maxRecDepth 20000 in
theorem dX4_notTopAfter_38 : decode cX4_notTopAfter 38 = .ok (.iload_n 3, 1) := by decide +kernel
set_option maxRecDepth 20000 in
theorem dX4_notTopAfter_39 : decode cX4_notTopAfter 39 = .ok (.aaload, 1) := by decide +kernel
set_option maxRecDepth 20000 in
theorem dX4_notTopAfter_40 : decode cX4_notTopAfter 40 = .ok (.getfield 29, 3) := by decide +kernel
set_option maxRecDepth 20000 in
theorem dX4_notTopAfter_43 : decode cX4_notTopAfter 43 = .ok (.iconst 3, 1) := by decide +kernel
set_option maxRecDepth 20000 in
theorem dX4_notTopAfter_44 : decode cX4_notTopAfter 44 = .ok (.if_icmp .eq 7, 3) := by decide +kernel
set_option maxRecDepth 20000 in
theorem dX4_notTopAfter_47 : decode cX4_notTopAfter 47 = .ok (.iconst 1, 1) := by decide +kernel
set_option maxRecDepth 20000 in
theorem dX4_notTopAfter_48 : decode cX4_notTopAfter 48 = .ok (.goto 4, 3) := by decide +kernel
set_option maxRecDepth 20000 in
theorem dX4_notTopAfter_51 : decode cX4_notTopAfter 51 = .ok (.iconst 0, 1) := by decide +kernel
set_option maxRecDepth 20000 in
theorem dX4_notTopAfter_52 : decode cX4_notTopAfter 52 = .ok (.iadd, 1) := by decide +kernel
set_option maxRecDepth 20000 in
theorem dX4_notTopAfter_53 : decode cX4_notTopAfter 53 = .ok (.istore_n 2, 1) := by decide +kernel
set_option maxRecDepth 20000 in
theorem dX4_notTopAfter_54 : decode cX4_notTopAfter 54 = .ok (.iinc 3 1, 3) := by decide +kernel
set_option maxRecDepth 20000 in
theorem dX4_notTopAfter_57 : decode cX4_notTopAfter 57 = .ok (.goto (-53), 3) := by decide +kernel
set_option maxRecDepth 20000 in
theorem dX4_notTopAfter_60 : decode cX4_notTopAfter 60 = .ok (.iload_n 2, 1) := by decide +kernel
set_option maxRecDepth 20000 in
theorem dX4_notTopAfter_61 : decode cX4_notTopAfter 61 = .ok (.ireturn, 1) := by decide +kernel
set_option maxRecDepth 20000 in
theorem dX4_shownNow_0 : decode cX4_shownNow 0 = .ok (.aload_n 0, 1) := by decide +kernel
set_option maxRecDepth 20000 in
theorem dX4_shownNow_1 : decode cX4_shownNow 1 = .ok (.iload_n 1, 1) := by decide +kernel
set_option maxRecDepth 20000 in
theorem dX4_shownNow_2 : decode cX4_shownNow 2 = .ok (.aload_n 0, 1) := by decide +kernel
set_option maxRecDepth 20000 in
theorem dX4_shownNow_3 : decode cX4_shownNow 3 = .ok (.iload_n 1, 1) := by decide +kernel
set_option maxRecDepth 20000 in
theorem dX4_shownNow_4 : decode cX4_shownNow 4 = .ok (.invokevirtual 32, 3) := by decide +kernel
set_option maxRecDepth 20000 in
theorem dX4_shownNow_7 : decode cX4_shownNow 7 = .ok (.invokevirtual 36, 3) := by decide +kernel
set_option maxRecDepth 20000 in
theorem dX4_shownNow_10 : decode cX4_shownNow 10 = .ok (.ireturn, 1) := by decide +kernel
set_option maxRecDepth 20000 in
theorem dX4_shown_0 : decode cX4_shown 0 = .ok (.aload_n 0, 1) := by decide +kernel
set_option maxRecDepth 20000 in
theorem dX4_shown_1 : decode cX4_shown 1 = .ok (.getfield 11, 3) := by decide +kernel
set_option maxRecDepth 20000 in
theorem dX4_shown_4 : decode cX4_shown 4 = .ok (.iload_n 1, 1) := by decide +kernel
set_option maxRecDepth 20000 in
theorem dX4_shown_5 : decode cX4_shown 5 = .ok (.aaload, 1) := by decide +kernel
set_option maxRecDepth 20000 in
theorem dX4_shown_6 : decode cX4_shown 6 = .ok (.getfield 40, 3) := by decide +kernel
set_option maxRecDepth 20000 in
theorem dX4_shown_9 : decode cX4_shown 9 = .ok (.ifCond .ne 5, 3) := by decide +kernel
set_option maxRecDepth 20000 in
theorem dX4_shown_12 : decode cX4_shown 12 = .ok (.iconst 0, 1) := by decide +kernel
set_option maxRecDepth 20000 in
theorem dX4_shown_13 : decode cX4_shown 13 = .ok (.ireturn, 1) := by decide +kernel
set_option maxRecDepth 20000 in
theorem dX4_shown_14 : decode cX4_shown 14 = .ok (.aload_n 0, 1) := by decide +kernel
set_option maxRecDepth 20000 in
theorem dX4_shown_15 : decode cX4_shown 15 = .ok (.getfield 11, 3) := by decide +kernel
set_option maxRecDepth 20000 in
theorem dX4_shown_18 : decode cX4_shown 18 = .ok (.iload_n 1, 1) := by decide +kernel
set_option maxRecDepth 20000 in
theorem dX4_shown_19 : decode cX4_shown 19 = .ok (.aaload, 1) := by decide +kernel
set_option maxRecDepth 20000 in
theorem dX4_shown_20 : decode cX4_shown 20 = .ok (.getfield 44, 3) := by decide +kernel
set_option maxRecDepth 20000 in
theorem dX4_shown_23 : decode cX4_shown 23 = .ok (.lstore_n 3, 1) := by decide +kernel
set_option maxRecDepth 20000 in
theorem dX4_shown_24 : decode cX4_shown 24 = .ok (.aload_n 0, 1) := by decide +kernel
set_option maxRecDepth 20000 in
theorem dX4_shown_25 : decode cX4_shown 25 = .ok (.getfield 11, 3) := by decide +kernel
set_option maxRecDepth 20000 in
theorem dX4_shown_28 : decode cX4_shown 28 = .ok (.iload_n 1, 1) := by decide +kernel
set_option maxRecDepth 20000 in
theorem dX4_shown_29 : decode cX4_shown 29 = .ok (.aaload, 1) := by decide +kernel
set_option maxRecDepth 20000 in
theorem dX4_shown_30 : decode cX4_shown 30 = .ok (.getfield 48, 3) := by decide +kernel
set_option maxRecDepth 20000 in
theorem dX4_shown_33 : decode cX4_shown 33 = .ok (.lstore 5, 2) := by decide +kernel
set_option maxRecDepth 20000 in
theorem dX4_shown_35 : decode cX4_shown 35 = .ok (.iconst 0, 1) := by decide +kernel
set_option maxRecDepth 20000 in
theorem dX4_shown_36 : decode cX4_shown 36 = .ok (.istore 7, 2) := by decide +kernel
set_option maxRecDepth 20000 in
theorem dX4_shown_38 : decode cX4_shown 38 = .ok (.iload 7, 2) := by decide +kernel
set_option maxRecDepth 20000 in
theorem dX4_shown_40 : decode cX4_shown 40 = .ok (.aload_n 0, 1) := by decide +kernel
set_option maxRecDepth 20000 in
theorem dX4_shown_41 : decode cX4_shown 41 = .ok (.getfield 17, 3) := by decide +kernel
set_option maxRecDepth 20000 in
theorem dX4_shown_44 : decode cX4_shown 44 = .ok (.if_icmp .ge 69, 3) := by decide +kernel
set_option maxRecDepth 20000 in
theorem dX4_shown_47 : decode cX4_shown 47 = .ok (.aload_n 0, 1) := by decide +kernel
set_option maxRecDepth 20000 in
theorem dX4_shown_48 : decode cX4_shown 48 = .ok (.getfield 11, 3) := by decide +kernel
set_option maxRecDepth 20000 in
theorem dX4_shown_51 : decode cX4_shown 51 = .ok (.iload 7, 2) := by decide +kernel
set_option maxRecDepth 20000 in
theorem dX4_shown_53 : decode cX4_shown 53 = .ok (.aaload, 1) := by decide +kernel
set_option maxRecDepth 20000 in
theorem dX4_shown_54 : decode cX4_shown 54 = .ok (.getfield 40, 3) := by decide +kernel
set_option maxRecDepth 20000 in
theorem dX4_shown_57 : decode cX4_shown 57 = .ok (.ifCond .eq 50, 3) := by decide +kernel
set_option maxRecDepth 20000 in
theorem dX4_shown_60 : decode cX4_shown 60 = .ok (.aload_n 0, 1) := by decide +kernel
set_option maxRecDepth 20000 in
theorem dX4_shown_61 : decode cX4_shown 61 = .ok (.iload 7, 2) := by decide +kernel
set_option maxRecDepth 20000 in
theorem dX4_shown_63 : decode cX4_shown 63 = .ok (.iload_n 1, 1) := by decide +kernel
set_option maxRecDepth 20000 in
theorem dX4_shown_64 : decode cX4_shown 64 = .ok (.iload_n 2, 1) := by decide +kernel
set_option maxRecDepth 20000 in
theorem dX4_shown_65 : decode cX4_shown 65 = .ok (.invokevirtual 51, 3) := by decide +kernel
set_option maxRecDepth 20000 in
theorem dX4_shown_68 : decode cX4_shown 68 = .ok (.ifCond .eq 39, 3) := by decide +kernel
set_option maxRecDepth 20000 in
theorem dX4_shown_71 : decode cX4_shown 71 = .ok (.lload_n 3, 1) := by decide +kernel
set_option maxRecDepth 20000 in
theorem dX4_shown_72 : decode cX4_shown 72 = .ok (.aload_n 0, 1) := by decide +kernel
set_option maxRecDepth 20000 in
theorem dX4_shown_73 : decode cX4_shown 73 = .ok (.getfield 11, 3) := by decide +kernel
set_option maxRecDepth 20000 in
theorem dX4_shown_76 : decode cX4_shown 76 = .ok (.iload 7, 2) := by decide +kernel
set_option maxRecDepth 20000 in
theorem dX4_shown_78 : decode cX4_shown 78 = .ok (.aaload, 1) := by decide +kernel
set_option maxRecDepth 20000 in
theorem dX4_shown_79 : decode cX4_shown 79 = .ok (.getfield 44, 3) := by decide +kernel
set_option maxRecDepth 20000 in
theorem dX4_shown_82 : decode cX4_shown 82 = .ok (.ldc2_w 55, 3) := by decide +kernel
set_option maxRecDepth 20000 in
theorem dX4_shown_85 : decode cX4_shown 85 = .ok (.lxor, 1) := by decide +kernel
set_option maxRecDepth 20000 in
theorem dX4_shown_86 : decode cX4_shown 86 = .ok (.land, 1) := by decide +kernel
set_option maxRecDepth 20000 in
theorem dX4_shown_87 : decode cX4_shown 87 = .ok (.lstore_n 3, 1) := by decide +kernel
set_option maxRecDepth 20000 in
theorem dX4_shown_88 : decode cX4_shown 88 = .ok (.lload 5, 2) := by decide +kernel
set_option maxRecDepth 20000 in
theorem dX4_shown_90 : decode cX4_shown 90 = .ok (.aload_n 0, 1) := by decide +kernel
set_option maxRecDepth 20000 in
theorem dX4_shown_91 : decode cX4_shown 91 = .ok (.getfield 11, 3) := by decide +kernel
set_option maxRecDepth 20000 in
theorem dX4_shown_94 : decode cX4_shown 94 = .ok (.iload 7, 2) := by decide +kernel
set_option maxRecDepth 20000 in
theorem dX4_shown_96 : decode cX4_shown 96 = .ok (.aaload, 1) := by decide +kernel
set_option maxRecDepth 20000 in
theorem dX4_shown_97 : decode cX4_shown 97 = .ok (.getfield 48, 3) := by decide +kernel
set_option maxRecDepth 20000 in
theorem dX4_shown_100 : decode cX4_shown 100 = .ok (.ldc2_w 55, 3) := by decide +kernel
set_option maxRecDepth 20000 in
theorem dX4_shown_103 : decode cX4_shown 103 = .ok (.lxor, 1) := by decide +kernel
set_option maxRecDepth 20000 in
theorem dX4_shown_104 : decode cX4_shown 104 = .ok (.land, 1) := by decide +kernel
set_option maxRecDepth 20000 in
theorem dX4_shown_105 : decode cX4_shown 105 = .ok (.lstore 5, 2) := by decide +kernel
set_option maxRecDepth 20000 in
theorem dX4_shown_107 : decode cX4_shown 107 = .ok (.iinc 7 1, 3) := by decide +kernel
set_option maxRecDepth 20000 in
theorem dX4_shown_110 : decode cX4_shown 110 = .ok (.goto (-72), 3) := by decide +kernel
set_option maxRecDepth 20000 in
theorem dX4_shown_113 : decode cX4_shown 113 = .ok (.lload_n 3, 1) := by decide +kernel
set_option maxRecDepth 20000 in
theorem dX4_shown_114 : decode cX4_shown 114 = .ok (.invokestatic 57, 3) := by decide +kernel
set_option maxRecDepth 20000 in
theorem dX4_shown_117 : decode cX4_shown 117 = .ok (.lload 5, 2) := by decide +kernel
set_option maxRecDepth 20000 in
theorem dX4_shown_119 : decode cX4_shown 119 = .ok (.invokestatic 57, 3) := by decide +kernel
set_option maxRecDepth 20000 in
theorem dX4_shown_122 : decode cX4_shown 122 = .ok (.iadd, 1) := by decide +kernel
set_option maxRecDepth 20000 in
theorem dX4_shown_123 : decode cX4_shown 123 = .ok (.ireturn, 1) := by decide +kernel
set_option maxRecDepth 20000 in
theorem dX4_wouldBeOver_0 : decode cX4_wouldBeOver 0 = .ok (.aload_n 0, 1) := by decide +kernel
set_option maxRecDepth 20000 in
theorem dX4_wouldBeOver_1 : decode cX4_wouldBeOver 1 = .ok (.getfield 11, 3) := by decide +kernel
set_option maxRecDepth 20000 in
theorem dX4_wouldBeOver_4 : decode cX4_wouldBeOver 4 = .ok (.iload_n 1, 1) := by decide +kernel
set_option maxRecDepth 20000 in
theorem dX4_wouldBeOver_5 : decode cX4_wouldBeOver 5 = .ok (.aaload, 1) := by decide +kernel
set_option maxRecDepth 20000 in
theorem dX4_wouldBeOver_6 : decode cX4_wouldBeOver 6 = .ok (.getfield 29, 3) := by decide +kernel
set_option maxRecDepth 20000 in
theorem dX4_wouldBeOver_9 : decode cX4_wouldBeOver 9 = .ok (.iconst 3, 1) := by decide +kernel
set_option maxRecDepth 20000 in
theorem dX4_wouldBeOver_10 : decode cX4_wouldBeOver 10 = .ok (.if_icmp .ne 7, 3) := by decide +kernel
set_option maxRecDepth 20000 in
theorem dX4_wouldBeOver_13 : decode cX4_wouldBeOver 13 = .ok (.iconst 1, 1) := by decide +kernel
set_option maxRecDepth 20000 in
theorem dX4_wouldBeOver_14 : decode cX4_wouldBeOver 14 = .ok (.goto 4, 3) := by decide +kernel
set_option maxRecDepth 20000 in
theorem dX4_wouldBeOver_17 : decode cX4_wouldBeOver 17 = .ok (.iconst 0, 1) := by decide +kernel
set_option maxRecDepth 20000 in
theorem dX4_wouldBeOver_18 : decode cX4_wouldBeOver 18 = .ok (.istore 4, 2) := by decide +kernel
set_option maxRecDepth 20000 in
theorem dX4_wouldBeOver_20 : decode cX4_wouldBeOver 20 = .ok (.aload_n 0, 1) := by decide +kernel
set_option maxRecDepth 20000 in
theorem dX4_wouldBeOver_21 : decode cX4_wouldBeOver 21 = .ok (.getfield 11, 3) := by decide +kernel
set_option maxRecDepth 20000 in
theorem dX4_wouldBeOver_24 : decode cX4_wouldBeOver 24 = .ok (.iload_n 2, 1) := by decide +kernel
set_option maxRecDepth 20000 in
theorem dX4_wouldBeOver_25 : decode cX4_wouldBeOver 25 = .ok (.aaload, 1) := by decide +kernel
set_option maxRecDepth 20000 in
theorem dX4_wouldBeOver_26 : decode cX4_wouldBeOver 26 = .ok (.getfield 29, 3) := by decide +kernel
set_option maxRecDepth 20000 in
theorem dX4_wouldBeOver_29 : decode cX4_wouldBeOver 29 = .ok (.iconst 3, 1) := by decide +kernel
set_option maxRecDepth 20000 in
theorem dX4_wouldBeOver_30 : decode cX4_wouldBeOver 30 = .ok (.if_icmp .ne 7, 3) := by decide +kernel
set_option maxRecDepth 20000 in
theorem dX4_wouldBeOver_33 : decode cX4_wouldBeOver 33 = .ok (.iconst 1, 1) := by decide +kernel
set_option maxRecDepth 20000 in
theorem dX4_wouldBeOver_34 : decode cX4_wouldBeOver 34 = .ok (.goto 4, 3) := by decide +kernel
set_option maxRecDepth 20000 in
theorem dX4_wouldBeOver_37 : decode cX4_wouldBeOver 37 = .ok (.iconst 0, 1) := by decide +kernel
set_option maxRecDepth 20000 in
theorem dX4_wouldBeOver_38 : decode cX4_wouldBeOver 38 = .ok (.istore 5, 2) := by decide +kernel
set_option maxRecDepth 20000 in
theorem dX4_wouldBeOver_40 : decode cX4_wouldBeOver 40 = .ok (.iload 4, 2) := by decide +kernel
set_option maxRecDepth 20000 in
theorem dX4_wouldBeOver_42 : decode cX4_wouldBeOver 42 = .ok (.iload 5, 2) := by decide +kernel
set_option maxRecDepth 20000 in
theorem dX4_wouldBeOver_44 : decode cX4_wouldBeOver 44 = .ok (.if_icmp .ne 19, 3) := by decide +kernel
set_option maxRecDepth 20000 in
theorem dX4_wouldBeOver_47 : decode cX4_wouldBeOver 47 = .ok (.iload_n 3, 1) := by decide +kernel
set_option maxRecDepth 20000 in
theorem dX4_wouldBeOver_48 : decode cX4_wouldBeOver 48 = .ok (.iload_n 1, 1) := by decide +kernel
set_option maxRecDepth 20000 in
theorem dX4_wouldBeOver_49 : decode cX4_wouldBeOver 49 = .ok (.ishr, 1) := by decide +kernel
set_option maxRecDepth 20000 in
theorem dX4_wouldBeOver_50 : decode cX4_wouldBeOver 50 = .ok (.iconst 1, 1) := by decide +kernel
set_option maxRecDepth 20000 in
theorem dX4_wouldBeOver_51 : decode cX4_wouldBeOver 51 = .ok (.iand, 1) := by decide +kernel
set_option maxRecDepth 20000 in
theorem dX4_wouldBeOver_52 : decode cX4_wouldBeOver 52 = .ok (.ifCond .eq 7, 3) := by decide +kernel
set_option maxRecDepth 20000 in
theorem dX4_wouldBeOver_55 : decode cX4_wouldBeOver 55 = .ok (.iconst 1, 1) := by decide +kernel
set_option maxRecDepth 20000 in
theorem dX4_wouldBeOver_56 : decode cX4_wouldBeOver 56 = .ok (.goto 9, 3) := by decide +kernel
set_option maxRecDepth 20000 in
theorem dX4_wouldBeOver_59 : decode cX4_wouldBeOver 59 = .ok (.iconst 0, 1) := by decide +kernel
set_option maxRecDepth 20000 in
theorem dX4_wouldBeOver_60 : decode cX4_wouldBeOver 60 = .ok (.goto 5, 3) := by decide +kernel
set_option maxRecDepth 20000 in
theorem dX4_wouldBeOver_63 : decode cX4_wouldBeOver 63 = .ok (.iload 4, 2) := by decide +kernel
set_option maxRecDepth 20000 in
theorem dX4_wouldBeOver_65 : decode cX4_wouldBeOver 65 = .ok (.ireturn, 1) := by decide +kernel
set_option maxRecDepth 20000 in
theorem dX4_whoAt_0 : decode cX4_whoAt 0 = .ok (.iconst (-1), 1) := by decide +kernel
set_option maxRecDepth 20000 in
theorem dX4_whoAt_1 : decode cX4_whoAt 1 = .ok (.istore_n 2, 1) := by decide +kernel
set_option maxRecDepth 20000 in
theorem dX4_whoAt_2 : decode cX4_whoAt 2 = .ok (.iconst (-1), 1) := by decide +kernel
set_option maxRecDepth 20000 in
theorem dX4_whoAt_3 : decode cX4_whoAt 3 = .ok (.istore_n 3, 1) := by decide +kernel
set_option maxRecDepth 20000 in
theorem dX4_whoAt_4 : decode cX4_whoAt 4 = .ok (.iconst 0, 1) := by decide +kernel
set_option maxRecDepth 20000 in
theorem dX4_whoAt_5 : decode cX4_whoAt 5 = .ok (.istore 4, 2) := by decide +kernel
set_option maxRecDepth 20000 in
theorem dX4_whoAt_7 : decode cX4_whoAt 7 = .ok (.iload 4, 2) := by decide +kernel
set_option maxRecDepth 20000 in
theorem dX4_whoAt_9 : decode cX4_whoAt 9 = .ok (.aload_n 0, 1) := by decide +kernel
set_option maxRecDepth 20000 in
theorem dX4_whoAt_10 : decode cX4_whoAt 10 = .ok (.getfield 17, 3) := by decide +kernel
set_option maxRecDepth 20000 in
theorem dX4_whoAt_13 : decode cX4_whoAt 13 = .ok (.if_icmp .ge 53, 3) := by decide +kernel
set_option maxRecDepth 20000 in
theorem dX4_whoAt_16 : decode cX4_whoAt 16 = .ok (.aload_n 0, 1) := by decide +kernel
set_option maxRecDepth 20000 in
theorem dX4_whoAt_17 : decode cX4_whoAt 17 = .ok (.getfield 11, 3) := by decide +kernel
set_option maxRecDepth 20000 in
theorem dX4_whoAt_20 : decode cX4_whoAt 20 = .ok (.iload 4, 2) := by decide +kernel
set_option maxRecDepth 20000 in
theorem dX4_whoAt_22 : decode cX4_whoAt 22 = .ok (.aaload, 1) := by decide +kernel
set_option maxRecDepth 20000 in
theorem dX4_whoAt_23 : decode cX4_whoAt 23 = .ok (.astore 5, 2) := by decide +kernel
set_option maxRecDepth 20000 in
theorem dX4_whoAt_25 : decode cX4_whoAt 25 = .ok (.aload 5, 2) := by decide +kernel
set_option maxRecDepth 20000 in
theorem dX4_whoAt_27 : decode cX4_whoAt 27 = .ok (.getfield 40, 3) := by decide +kernel
set_option maxRecDepth 20000 in
theorem dX4_whoAt_30 : decode cX4_whoAt 30 = .ok (.ifCond .eq 30, 3) := by decide +kernel
set_option maxRecDepth 20000 in
theorem dX4_whoAt_33 : decode cX4_whoAt 33 = .ok (.aload 5, 2) := by decide +kernel
set_option maxRecDepth 20000 in
theorem dX4_whoAt_35 : decode cX4_whoAt 35 = .ok (.invokevirtual 63, 3) := by decide +kernel
set_option maxRecDepth 20000 in
theorem dX4_whoAt_38 : decode cX4_whoAt 38 = .ok (.iload_n 3, 1) := by decide +kernel
set_option maxRecDepth 20000 in
theorem dX4_whoAt_39 : decode cX4_whoAt 39 = .ok (.if_icmp .le 21, 3) := by decide +kernel
set_option maxRecDepth 20000 in
theorem dX4_whoAt_42 : decode cX4_whoAt 42 = .ok (.aload 5, 2) := by decide +kernel
set_option maxRecDepth 20000 in
theorem dX4_whoAt_44 : decode cX4_whoAt 44 = .ok (.iload_n 1, 1) := by decide +kernel
set_option maxRecDepth 20000 in
theorem dX4_whoAt_45 : decode cX4_whoAt 45 = .ok (.invokevirtual 67, 3) := by decide +kernel
set_option maxRecDepth 20000 in
theorem dX4_whoAt_48 : decode cX4_whoAt 48 = .ok (.ifCond .eq 12, 3) := by decide +kernel
set_option maxRecDepth 20000 in
theorem dX4_whoAt_51 : decode cX4_whoAt 51 = .ok (.iload 4, 2) := by decide +kernel
set_option maxRecDepth 20000 in
theorem dX4_whoAt_53 : decode cX4_whoAt 53 = .ok (.istore_n 2, 1) := by decide +kernel
set_option maxRecDepth 20000 in
theorem dX4_whoAt_54 : decode cX4_whoAt 54 = .ok (.aload 5, 2) := by decide +kernel
set_option maxRecDepth 20000 in
theorem dX4_whoAt_56 : decode cX4_whoAt 56 = .ok (.invokevirtual 63, 3) := by decide +kernel
set_option maxRecDepth 20000 in
theorem dX4_whoAt_59 : decode cX4_whoAt 59 = .ok (.istore_n 3, 1) := by decide +kernel
set_option maxRecDepth 20000 in
theorem dX4_whoAt_60 : decode cX4_whoAt 60 = .ok (.iinc 4 1, 3) := by decide +kernel
set_option maxRecDepth 20000 in
theorem dX4_whoAt_63 : decode cX4_whoAt 63 = .ok (.goto (-56), 3) := by decide +kernel
set_option maxRecDepth 20000 in
theorem dX4_whoAt_66 : decode cX4_whoAt 66 = .ok (.iload_n 2, 1) := by decide +kernel
set_option maxRecDepth 20000 in
theorem dX4_whoAt_67 : decode cX4_whoAt 67 = .ok (.ireturn, 1) := by decide +kernel
set_option maxRecDepth 20000 in
theorem dX4_howManyCover_0 : decode cX4_howManyCover 0 = .ok (.iconst 0, 1) := by decide +kernel
set_option maxRecDepth 20000 in
theorem dX4_howManyCover_1 : decode cX4_howManyCover 1 = .ok (.istore_n 2, 1) := by decide +kernel
set_option maxRecDepth 20000 in
theorem dX4_howManyCover_2 : decode cX4_howManyCover 2 = .ok (.iconst 0, 1) := by decide +kernel
set_option maxRecDepth 20000 in
theorem dX4_howManyCover_3 : decode cX4_howManyCover 3 = .ok (.istore_n 3, 1) := by decide +kernel
set_option maxRecDepth 20000 in
theorem dX4_howManyCover_4 : decode cX4_howManyCover 4 = .ok (.iload_n 3, 1) := by decide +kernel
set_option maxRecDepth 20000 in
theorem dX4_howManyCover_5 : decode cX4_howManyCover 5 = .ok (.aload_n 0, 1) := by decide +kernel
set_option maxRecDepth 20000 in
theorem dX4_howManyCover_6 : decode cX4_howManyCover 6 = .ok (.getfield 17, 3) := by decide +kernel
set_option maxRecDepth 20000 in
theorem dX4_howManyCover_9 : decode cX4_howManyCover 9 = .ok (.if_icmp .ge 42, 3) := by decide +kernel
set_option maxRecDepth 20000 in
theorem dX4_howManyCover_12 : decode cX4_howManyCover 12 = .ok (.iload_n 2, 1) := by decide +kernel
set_option maxRecDepth 20000 in
theorem dX4_howManyCover_13 : decode cX4_howManyCover 13 = .ok (.aload_n 0, 1) := by decide +kernel
set_option maxRecDepth 20000 in
theorem dX4_howManyCover_14 : decode cX4_howManyCover 14 = .ok (.getfield 11, 3) := by decide +kernel
set_option maxRecDepth 20000 in
theorem dX4_howManyCover_17 : decode cX4_howManyCover 17 = .ok (.iload_n 3, 1) := by decide +kernel
set_option maxRecDepth 20000 in
theorem dX4_howManyCover_18 : decode cX4_howManyCover 18 = .ok (.aaload, 1) := by decide +kernel
set_option maxRecDepth 20000 in
theorem dX4_howManyCover_19 : decode cX4_howManyCover 19 = .ok (.getfield 40, 3) := by decide +kernel
set_option maxRecDepth 20000 in
theorem dX4_howManyCover_22 : decode cX4_howManyCover 22 = .ok (.ifCond .eq 20, 3) := by decide +kernel
set_option maxRecDepth 20000 in
theorem dX4_howManyCover_25 : decode cX4_howManyCover 25 = .ok (.aload_n 0, 1) := by decide +kernel
set_option maxRecDepth 20000 in
theorem dX4_howManyCover_26 : decode cX4_howManyCover 26 = .ok (.getfield 11, 3) := by decide +kernel
set_option maxRecDepth 20000 in
theorem dX4_howManyCover_29 : decode cX4_howManyCover 29 = .ok (.iload_n 3, 1) := by decide +kernel
set_option maxRecDepth 20000 in
theorem dX4_howManyCover_30 : decode cX4_howManyCover 30 = .ok (.aaload, 1) := by decide +kernel
set_option maxRecDepth 20000 in
theorem dX4_howManyCover_31 : decode cX4_howManyCover 31 = .ok (.iload_n 1, 1) := by decide +kernel
set_option maxRecDepth 20000 in
theorem dX4_howManyCover_32 : decode cX4_howManyCover 32 = .ok (.invokevirtual 67, 3) := by decide +kernel
set_option maxRecDepth 20000 in
theorem dX4_howManyCover_35 : decode cX4_howManyCover 35 = .ok (.ifCond .eq 7, 3) := by decide +kernel
set_option maxRecDepth 20000 in
theorem dX4_howManyCover_38 : decode cX4_howManyCover 38 = .ok (.iconst 1, 1) := by decide +kernel
set_option maxRecDepth 20000 in
theorem dX4_howManyCover_39 : decode cX4_howManyCover 39 = .ok (.goto 4, 3) := by decide +kernel
set_option maxRecDepth 20000 in
theorem dX4_howManyCover_42 : decode cX4_howManyCover 42 = .ok (.iconst 0, 1) := by decide +kernel
set_option maxRecDepth 20000 in
theorem dX4_howManyCover_43 : decode cX4_howManyCover 43 = .ok (.iadd, 1) := by decide +kernel
set_option maxRecDepth 20000 in
theorem dX4_howManyCover_44 : decode cX4_howManyCover 44 = .ok (.istore_n 2, 1) := by decide +kernel
set_option maxRecDepth 20000 in
theorem dX4_howManyCover_45 : decode cX4_howManyCover 45 = .ok (.iinc 3 1, 3) := by decide +kernel
set_option maxRecDepth 20000 in
theorem dX4_howManyCover_48 : decode cX4_howManyCover 48 = .ok (.goto (-44), 3) := by decide +kernel
set_option maxRecDepth 20000 in
theorem dX4_howManyCover_51 : decode cX4_howManyCover 51 = .ok (.iload_n 2, 1) := by decide +kernel
set_option maxRecDepth 20000 in
theorem dX4_howManyCover_52 : decode cX4_howManyCover 52 = .ok (.ireturn, 1) := by decide +kernel
set_option maxRecDepth 20000 in
theorem dX4_howManyOver_0 : decode cX4_howManyOver 0 = .ok (.aload_n 0, 1) := by decide +kernel
set_option maxRecDepth 20000 in
theorem dX4_howManyOver_1 : decode cX4_howManyOver 1 = .ok (.getfield 11, 3) := by decide +kernel
set_option maxRecDepth 20000 in
theorem dX4_howManyOver_4 : decode cX4_howManyOver 4 = .ok (.iload_n 1, 1) := by decide +kernel
set_option maxRecDepth 20000 in
theorem dX4_howManyOver_5 : decode cX4_howManyOver 5 = .ok (.aaload, 1) := by decide +kernel
set_option maxRecDepth 20000 in
theorem dX4_howManyOver_6 : decode cX4_howManyOver 6 = .ok (.invokevirtual 63, 3) := by decide +kernel
set_option maxRecDepth 20000 in
theorem dX4_howManyOver_9 : decode cX4_howManyOver 9 = .ok (.istore_n 3, 1) := by decide +kernel
set_option maxRecDepth 20000 in
theorem dX4_howManyOver_10 : decode cX4_howManyOver 10 = .ok (.iconst 0, 1) := by decide +kernel
set_option maxRecDepth 20000 in
theorem dX4_howManyOver_11 : decode cX4_howManyOver 11 = .ok (.istore 4, 2) := by decide +kernel
set_option maxRecDepth 20000 in
theorem dX4_howManyOver_13 : decode cX4_howManyOver 13 = .ok (.iconst 0, 1) := by decide +kernel
set_option maxRecDepth 20000 in
theorem dX4_howManyOver_14 : decode cX4_howManyOver 14 = .ok (.istore 5, 2) := by decide +kernel
set_option maxRecDepth 20000 in
theorem dX4_howManyOver_16 : decode cX4_howManyOver 16 = .ok (.iload 5, 2) := by decide +kernel
set_option maxRecDepth 20000 in
theorem dX4_howManyOver_18 : decode cX4_howManyOver 18 = .ok (.aload_n 0, 1) := by decide +kernel
set_option maxRecDepth 20000 in
theorem dX4_howManyOver_19 : decode cX4_howManyOver 19 = .ok (.getfield 17, 3) := by decide +kernel
set_option maxRecDepth 20000 in
theorem dX4_howManyOver_22 : decode cX4_howManyOver 22 = .ok (.if_icmp .ge 60, 3) := by decide +kernel
set_option maxRecDepth 20000 in
theorem dX4_howManyOver_25 : decode cX4_howManyOver 25 = .ok (.iload 4, 2) := by decide +kernel
set_option maxRecDepth 20000 in
theorem dX4_howManyOver_27 : decode cX4_howManyOver 27 = .ok (.aload_n 0, 1) := by decide +kernel
set_option maxRecDepth 20000 in
theorem dX4_howManyOver_28 : decode cX4_howManyOver 28 = .ok (.getfield 11, 3) := by decide +kernel
set_option maxRecDepth 20000 in
theorem dX4_howManyOver_31 : decode cX4_howManyOver 31 = .ok (.iload 5, 2) := by decide +kernel
set_option maxRecDepth 20000 in
theorem dX4_howManyOver_33 : decode cX4_howManyOver 33 = .ok (.aaload, 1) := by decide +kernel
set_option maxRecDepth 20000 in
theorem dX4_howManyOver_34 : decode cX4_howManyOver 34 = .ok (.getfield 40, 3) := by decide +kernel
set_option maxRecDepth 20000 in
theorem dX4_howManyOver_37 : decode cX4_howManyOver 37 = .ok (.ifCond .eq 35, 3) := by decide +kernel
set_option maxRecDepth 20000 in
theorem dX4_howManyOver_40 : decode cX4_howManyOver 40 = .ok (.aload_n 0, 1) := by decide +kernel
set_option maxRecDepth 20000 in
theorem dX4_howManyOver_41 : decode cX4_howManyOver 41 = .ok (.getfield 11, 3) := by decide +kernel
set_option maxRecDepth 20000 in
theorem dX4_howManyOver_44 : decode cX4_howManyOver 44 = .ok (.iload 5, 2) := by decide +kernel
set_option maxRecDepth 20000 in
theorem dX4_howManyOver_46 : decode cX4_howManyOver 46 = .ok (.aaload, 1) := by decide +kernel
set_option maxRecDepth 20000 in
theorem dX4_howManyOver_47 : decode cX4_howManyOver 47 = .ok (.invokevirtual 63, 3) := by decide +kernel
set_option maxRecDepth 20000 in
theorem dX4_howManyOver_50 : decode cX4_howManyOver 50 = .ok (.iload_n 3, 1) := by decide +kernel
set_option maxRecDepth 20000 in
theorem dX4_howManyOver_51 : decode cX4_howManyOver 51 = .ok (.if_icmp .le 21, 3) := by decide +kernel
set_option maxRecDepth 20000 in
theorem dX4_howManyOver_54 : decode cX4_howManyOver 54 = .ok (.aload_n 0, 1) := by decide +kernel
set_option maxRecDepth 20000 in
theorem dX4_howManyOver_55 : decode cX4_howManyOver 55 = .ok (.getfield 11, 3) := by decide +kernel
set_option maxRecDepth 20000 in
theorem dX4_howManyOver_58 : decode cX4_howManyOver 58 = .ok (.iload 5, 2) := by decide +kernel
set_option maxRecDepth 20000 in
theorem dX4_howManyOver_60 : decode cX4_howManyOver 60 = .ok (.aaload, 1) := by decide +kernel
set_option maxRecDepth 20000 in
theorem dX4_howManyOver_61 : decode cX4_howManyOver 61 = .ok (.iload_n 2, 1) := by decide +kernel
set_option maxRecDepth 20000 in
theorem dX4_howManyOver_62 : decode cX4_howManyOver 62 = .ok (.invokevirtual 67, 3) := by decide +kernel
set_option maxRecDepth 20000 in
theorem dX4_howManyOver_65 : decode cX4_howManyOver 65 = .ok (.ifCond .eq 7, 3) := by decide +kernel
set_option maxRecDepth 20000 in
theorem dX4_howManyOver_68 : decode cX4_howManyOver 68 = .ok (.iconst 1, 1) := by decide +kernel
set_option maxRecDepth 20000 in
theorem dX4_howManyOver_69 : decode cX4_howManyOver 69 = .ok (.goto 4, 3) := by decide +kernel
set_option maxRecDepth 20000 in
theorem dX4_howManyOver_72 : decode cX4_howManyOver 72 = .ok (.iconst 0, 1) := by decide +kernel
set_option maxRecDepth 20000 in
theorem dX4_howManyOver_73 : decode cX4_howManyOver 73 = .ok (.iadd, 1) := by decide +kernel
set_option maxRecDepth 20000 in
theorem dX4_howManyOver_74 : decode cX4_howManyOver 74 = .ok (.istore 4, 2) := by decide +kernel
set_option maxRecDepth 20000 in
theorem dX4_howManyOver_76 : decode cX4_howManyOver 76 = .ok (.iinc 5 1, 3) := by decide +kernel
set_option maxRecDepth 20000 in
theorem dX4_howManyOver_79 : decode cX4_howManyOver 79 = .ok (.goto (-63), 3) := by decide +kernel
set_option maxRecDepth 20000 in
theorem dX4_howManyOver_82 : decode cX4_howManyOver 82 = .ok (.iload 4, 2) := by decide +kernel
set_option maxRecDepth 20000 in
theorem dX4_howManyOver_84 : decode cX4_howManyOver 84 = .ok (.ireturn, 1) := by decide +kernel
set_option maxRecDepth 20000 in
theorem dX4_inTheWayOf_0 : decode cX4_inTheWayOf 0 = .ok (.aload_n 0, 1) := by decide +kernel
set_option maxRecDepth 20000 in
theorem dX4_inTheWayOf_1 : decode cX4_inTheWayOf 1 = .ok (.getfield 11, 3) := by decide +kernel
set_option maxRecDepth 20000 in
theorem dX4_inTheWayOf_4 : decode cX4_inTheWayOf 4 = .ok (.iload_n 1, 1) := by decide +kernel
set_option maxRecDepth 20000 in
theorem dX4_inTheWayOf_5 : decode cX4_inTheWayOf 5 = .ok (.aaload, 1) := by decide +kernel
set_option maxRecDepth 20000 in
theorem dX4_inTheWayOf_6 : decode cX4_inTheWayOf 6 = .ok (.astore_n 2, 1) := by decide +kernel
set_option maxRecDepth 20000 in
theorem dX4_inTheWayOf_7 : decode cX4_inTheWayOf 7 = .ok (.iconst 0, 1) := by decide +kernel
set_option maxRecDepth 20000 in
theorem dX4_inTheWayOf_8 : decode cX4_inTheWayOf 8 = .ok (.istore_n 3, 1) := by decide +kernel
set_option maxRecDepth 20000 in
theorem dX4_inTheWayOf_9 : decode cX4_inTheWayOf 9 = .ok (.iconst 0, 1) := by decide +kernel
set_option maxRecDepth 20000 in
theorem dX4_inTheWayOf_10 : decode cX4_inTheWayOf 10 = .ok (.istore 4, 2) := by decide +kernel
set_option maxRecDepth 20000 in
theorem dX4_inTheWayOf_12 : decode cX4_inTheWayOf 12 = .ok (.iload 4, 2) := by decide +kernel
set_option maxRecDepth 20000 in
theorem dX4_inTheWayOf_14 : decode cX4_inTheWayOf 14 = .ok (.aload_n 0, 1) := by decide +kernel
set_option maxRecDepth 20000 in
theorem dX4_inTheWayOf_15 : decode cX4_inTheWayOf 15 = .ok (.getfield 17, 3) := by decide +kernel
set_option maxRecDepth 20000 in
theorem dX4_inTheWayOf_18 : decode cX4_inTheWayOf 18 = .ok (.if_icmp .ge 60, 3) := by decide +kernel
set_option maxRecDepth 20000 in
theorem dX4_inTheWayOf_21 : decode cX4_inTheWayOf 21 = .ok (.aload_n 0, 1) := by decide +kernel
set_option maxRecDepth 20000 in
theorem dX4_inTheWayOf_22 : decode cX4_inTheWayOf 22 = .ok (.getfield 11, 3) := by decide +kernel
set_option maxRecDepth 20000 in
theorem dX4_inTheWayOf_25 : decode cX4_inTheWayOf 25 = .ok (.iload 4, 2) := by decide +kernel
set_option maxRecDepth 20000 in
theorem dX4_inTheWayOf_27 : decode cX4_inTheWayOf 27 = .ok (.aaload, 1) := by decide +kernel
set_option maxRecDepth 20000 in
theorem dX4_inTheWayOf_28 : decode cX4_inTheWayOf 28 = .ok (.getfield 40, 3) := by decide +kernel
set_option maxRecDepth 20000 in
theorem dX4_inTheWayOf_31 : decode cX4_inTheWayOf 31 = .ok (.ifCond .eq 41, 3) := by decide +kernel
set_option maxRecDepth 20000 in
theorem dX4_inTheWayOf_34 : decode cX4_inTheWayOf 34 = .ok (.aload_n 0, 1) := by decide +kernel
set_option maxRecDepth 20000 in
theorem dX4_inTheWayOf_35 : decode cX4_inTheWayOf 35 = .ok (.getfield 11, 3) := by decide +kernel
set_option maxRecDepth 20000 in
theorem dX4_inTheWayOf_38 : decode cX4_inTheWayOf 38 = .ok (.iload 4, 2) := by decide +kernel
set_option maxRecDepth 20000 in
theorem dX4_inTheWayOf_40 : decode cX4_inTheWayOf 40 = .ok (.aaload, 1) := by decide +kernel
set_option maxRecDepth 20000 in
theorem dX4_inTheWayOf_41 : decode cX4_inTheWayOf 41 = .ok (.invokevirtual 63, 3) := by decide +kernel
set_option maxRecDepth 20000 in
theorem dX4_inTheWayOf_44 : decode cX4_inTheWayOf 44 = .ok (.aload_n 2, 1) := by decide +kernel
set_option maxRecDepth 20000 in
theorem dX4_inTheWayOf_45 : decode cX4_inTheWayOf 45 = .ok (.invokevirtual 63, 3) := by decide +kernel
set_option maxRecDepth 20000 in
theorem dX4_inTheWayOf_48 : decode cX4_inTheWayOf 48 = .ok (.if_icmp .le 24, 3) := by decide +kernel
set_option maxRecDepth 20000 in
theorem dX4_inTheWayOf_51 : decode cX4_inTheWayOf 51 = .ok (.aload_n 2, 1) := by decide +kernel
set_option maxRecDepth 20000 in
theorem dX4_inTheWayOf_52 : decode cX4_inTheWayOf 52 = .ok (.aload_n 0, 1) := by decide +kernel
set_option maxRecDepth 20000 in
theorem dX4_inTheWayOf_53 : decode cX4_inTheWayOf 53 = .ok (.getfield 11, 3) := by decide +kernel
set_option maxRecDepth 20000 in
theorem dX4_inTheWayOf_56 : decode cX4_inTheWayOf 56 = .ok (.iload 4, 2) := by decide +kernel
set_option maxRecDepth 20000 in
theorem dX4_inTheWayOf_58 : decode cX4_inTheWayOf 58 = .ok (.aaload, 1) := by decide +kernel
set_option maxRecDepth 20000 in
theorem dX4_inTheWayOf_59 : decode cX4_inTheWayOf 59 = .ok (.invokevirtual 71, 3) := by decide +kernel
set_option maxRecDepth 20000 in
theorem dX4_inTheWayOf_62 : decode cX4_inTheWayOf 62 = .ok (.ifCond .le 10, 3) := by decide +kernel
set_option maxRecDepth 20000 in
theorem dX4_inTheWayOf_65 : decode cX4_inTheWayOf 65 = .ok (.iload_n 3, 1) := by decide +kernel
set_option maxRecDepth 20000 in
theorem dX4_inTheWayOf_66 : decode cX4_inTheWayOf 66 = .ok (.iconst 1, 1) := by decide +kernel
set_option maxRecDepth 20000 in
theorem dX4_inTheWayOf_67 : decode cX4_inTheWayOf 67 = .ok (.iload 4, 2) := by decide +kernel
set_option maxRecDepth 20000 in
theorem dX4_inTheWayOf_69 : decode cX4_inTheWayOf 69 = .ok (.ishl, 1) := by decide +kernel
set_option maxRecDepth 20000 in
theorem dX4_inTheWayOf_70 : decode cX4_inTheWayOf 70 = .ok (.ior, 1) := by decide +kernel
set_option maxRecDepth 20000 in
theorem dX4_inTheWayOf_71 : decode cX4_inTheWayOf 71 = .ok (.istore_n 3, 1) := by decide +kernel
set_option maxRecDepth 20000 in
theorem dX4_inTheWayOf_72 : decode cX4_inTheWayOf 72 = .ok (.iinc 4 1, 3) := by decide +kernel
set_option maxRecDepth 20000 in
theorem dX4_inTheWayOf_75 : decode cX4_inTheWayOf 75 = .ok (.goto (-63), 3) := by decide +kernel
set_option maxRecDepth 20000 in
theorem dX4_inTheWayOf_78 : decode cX4_inTheWayOf 78 = .ok (.iload_n 3, 1) := by decide +kernel
set_option maxRecDepth 20000 in
theorem dX4_inTheWayOf_79 : decode cX4_inTheWayOf 79 = .ok (.ireturn, 1) := by decide +kernel
set_option maxRecDepth 20000 in
theorem dX4_unseenOpenOnes_0 : decode cX4_unseenOpenOnes 0 = .ok (.iconst 0, 1) := by decide +kernel
set_option maxRecDepth 20000 in
theorem dX4_unseenOpenOnes_1 : decode cX4_unseenOpenOnes 1 = .ok (.istore_n 1, 1) := by decide +kernel
set_option maxRecDepth 20000 in
theorem dX4_unseenOpenOnes_2 : decode cX4_unseenOpenOnes 2 = .ok (.iconst 0, 1) := by decide +kernel
set_option maxRecDepth 20000 in
theorem dX4_unseenOpenOnes_3 : decode cX4_unseenOpenOnes 3 = .ok (.istore_n 2, 1) := by decide +kernel
set_option maxRecDepth 20000 in
theorem dX4_unseenOpenOnes_4 : decode cX4_unseenOpenOnes 4 = .ok (.iload_n 2, 1) := by decide +kernel
set_option maxRecDepth 20000 in
theorem dX4_unseenOpenOnes_5 : decode cX4_unseenOpenOnes 5 = .ok (.aload_n 0, 1) := by decide +kernel
set_option maxRecDepth 20000 in
theorem dX4_unseenOpenOnes_6 : decode cX4_unseenOpenOnes 6 = .ok (.getfield 17, 3) := by decide +kernel
set_option maxRecDepth 20000 in
theorem dX4_unseenOpenOnes_9 : decode cX4_unseenOpenOnes 9 = .ok (.if_icmp .ge 35, 3) := by decide +kernel
set_option maxRecDepth 20000 in
theorem dX4_unseenOpenOnes_12 : decode cX4_unseenOpenOnes 12 = .ok (.aload_n 0, 1) := by decide +kernel
set_option maxRecDepth 20000 in
theorem dX4_unseenOpenOnes_13 : decode cX4_unseenOpenOnes 13 = .ok (.getfield 11, 3) := by decide +kernel
set_option maxRecDepth 20000 in
theorem dX4_unseenOpenOnes_16 : decode cX4_unseenOpenOnes 16 = .ok (.iload_n 2, 1) := by decide +kernel
set_option maxRecDepth 20000 in
theorem dX4_unseenOpenOnes_17 : decode cX4_unseenOpenOnes 17 = .ok (.aaload, 1) := by decide +kernel
set_option maxRecDepth 20000 in
theorem dX4_unseenOpenOnes_18 : decode cX4_unseenOpenOnes 18 = .ok (.getfield 40, 3) := by decide +kernel
set_option maxRecDepth 20000 in
theorem dX4_unseenOpenOnes_21 : decode cX4_unseenOpenOnes 21 = .ok (.ifCond .eq 17, 3) := by decide +kernel
set_option maxRecDepth 20000 in
theorem dX4_unseenOpenOnes_24 : decode cX4_unseenOpenOnes 24 = .ok (.aload_n 0, 1) := by decide +kernel
set_option maxRecDepth 20000 in
theorem dX4_unseenOpenOnes_25 : decode cX4_unseenOpenOnes 25 = .ok (.iload_n 2, 1) := by decide +kernel
set_option maxRecDepth 20000 in
theorem dX4_unseenOpenOnes_26 : decode cX4_unseenOpenOnes 26 = .ok (.invokevirtual 75, 3) := by decide +kernel
set_option maxRecDepth 20000 in
theorem dX4_unseenOpenOnes_29 : decode cX4_unseenOpenOnes 29 = .ok (.ifCond .ne 9, 3) := by decide +kernel
set_option maxRecDepth 20000 in
theorem dX4_unseenOpenOnes_32 : decode cX4_unseenOpenOnes 32 = .ok (.iload_n 1, 1) := by decide +kernel
set_option maxRecDepth 20000 in
theorem dX4_unseenOpenOnes_33 : decode cX4_unseenOpenOnes 33 = .ok (.iconst 1, 1) := by decide +kernel
set_option maxRecDepth 20000 in
theorem dX4_unseenOpenOnes_34 : decode cX4_unseenOpenOnes 34 = .ok (.iload_n 2, 1) := by decide +kernel
set_option maxRecDepth 20000 in
theorem dX4_unseenOpenOnes_35 : decode cX4_unseenOpenOnes 35 = .ok (.ishl, 1) := by decide +kernel
set_option maxRecDepth 20000 in
theorem dX4_unseenOpenOnes_36 : decode cX4_unseenOpenOnes 36 = .ok (.ior, 1) := by decide +kernel
set_option maxRecDepth 20000 in
theorem dX4_unseenOpenOnes_37 : decode cX4_unseenOpenOnes 37 = .ok (.istore_n 1, 1) := by decide +kernel
set_option maxRecDepth 20000 in
theorem dX4_unseenOpenOnes_38 : decode cX4_unseenOpenOnes 38 = .ok (.iinc 2 1, 3) := by decide +kernel
set_option maxRecDepth 20000 in
theorem dX4_unseenOpenOnes_41 : decode cX4_unseenOpenOnes 41 = .ok (.goto (-37), 3) := by decide +kernel
set_option maxRecDepth 20000 in
theorem dX4_unseenOpenOnes_44 : decode cX4_unseenOpenOnes 44 = .ok (.iload_n 1, 1) := by decide +kernel
set_option maxRecDepth 20000 in
theorem dX4_unseenOpenOnes_45 : decode cX4_unseenOpenOnes 45 = .ok (.ireturn, 1) := by decide +kernel
set_option maxRecDepth 20000 in
theorem dX4_howManySeen_0 : decode cX4_howManySeen 0 = .ok (.aload_n 0, 1) := by decide +kernel
set_option maxRecDepth 20000 in
theorem dX4_howManySeen_1 : decode cX4_howManySeen 1 = .ok (.invokevirtual 78, 3) := by decide +kernel
set_option maxRecDepth 20000 in
theorem dX4_howManySeen_4 : decode cX4_howManySeen 4 = .ok (.aload_n 0, 1) := by decide +kernel
set_option maxRecDepth 20000 in
theorem dX4_howManySeen_5 : decode cX4_howManySeen 5 = .ok (.invokevirtual 81, 3) := by decide +kernel
set_option maxRecDepth 20000 in
theorem dX4_howManySeen_8 : decode cX4_howManySeen 8 = .ok (.invokestatic 84, 3) := by decide +kernel
set_option maxRecDepth 20000 in
theorem dX4_howManySeen_11 : decode cX4_howManySeen 11 = .ok (.isub, 1) := by decide +kernel
set_option maxRecDepth 20000 in
theorem dX4_howManySeen_12 : decode cX4_howManySeen 12 = .ok (.ireturn, 1) := by decide +kernel
set_option maxRecDepth 20000 in
theorem dX4_shutOnes_0 : decode cX4_shutOnes 0 = .ok (.iconst 0, 1) := by decide +kernel
set_option maxRecDepth 20000 in
theorem dX4_shutOnes_1 : decode cX4_shutOnes 1 = .ok (.istore_n 1, 1) := by decide +kernel
set_option maxRecDepth 20000 in
theorem dX4_shutOnes_2 : decode cX4_shutOnes 2 = .ok (.iconst 0, 1) := by decide +kernel
set_option maxRecDepth 20000 in
theorem dX4_shutOnes_3 : decode cX4_shutOnes 3 = .ok (.istore_n 2, 1) := by decide +kernel
set_option maxRecDepth 20000 in
theorem dX4_shutOnes_4 : decode cX4_shutOnes 4 = .ok (.iload_n 2, 1) := by decide +kernel
set_option maxRecDepth 20000 in
theorem dX4_shutOnes_5 : decode cX4_shutOnes 5 = .ok (.aload_n 0, 1) := by decide +kernel
set_option maxRecDepth 20000 in
theorem dX4_shutOnes_6 : decode cX4_shutOnes 6 = .ok (.getfield 17, 3) := by decide +kernel
set_option maxRecDepth 20000 in
theorem dX4_shutOnes_9 : decode cX4_shutOnes 9 = .ok (.if_icmp .ge 27, 3) := by decide +kernel
set_option maxRecDepth 20000 in
theorem dX4_shutOnes_12 : decode cX4_shutOnes 12 = .ok (.aload_n 0, 1) := by decide +kernel
set_option maxRecDepth 20000 in
theorem dX4_shutOnes_13 : decode cX4_shutOnes 13 = .ok (.getfield 11, 3) := by decide +kernel
set_option maxRecDepth 20000 in
theorem dX4_shutOnes_16 : decode cX4_shutOnes 16 = .ok (.iload_n 2, 1) := by decide +kernel
set_option maxRecDepth 20000 in
theorem dX4_shutOnes_17 : decode cX4_shutOnes 17 = .ok (.aaload, 1) := by decide +kernel
set_option maxRecDepth 20000 in
theorem dX4_shutOnes_18 : decode cX4_shutOnes 18 = .ok (.getfield 40, 3) := by decide +kernel
set_option maxRecDepth 20000 in
theorem dX4_shutOnes_21 : decode cX4_shutOnes 21 = .ok (.ifCond .ne 9, 3) := by decide +kernel
set_option maxRecDepth 20000 in
theorem dX4_shutOnes_24 : decode cX4_shutOnes 24 = .ok (.iload_n 1, 1) := by decide +kernel
set_option maxRecDepth 20000 in
theorem dX4_shutOnes_25 : decode cX4_shutOnes 25 = .ok (.iconst 1, 1) := by decide +kernel
set_option maxRecDepth 20000 in
theorem dX4_shutOnes_26 : decode cX4_shutOnes 26 = .ok (.iload_n 2, 1) := by decide +kernel
set_option maxRecDepth 20000 in
theorem dX4_shutOnes_27 : decode cX4_shutOnes 27 = .ok (.ishl, 1) := by decide +kernel
set_option maxRecDepth 20000 in
theorem dX4_shutOnes_28 : decode cX4_shutOnes 28 = .ok (.ior, 1) := by decide +kernel
set_option maxRecDepth 20000 in
theorem dX4_shutOnes_29 : decode cX4_shutOnes 29 = .ok (.istore_n 1, 1) := by decide +kernel
set_option maxRecDepth 20000 in
theorem dX4_shutOnes_30 : decode cX4_shutOnes 30 = .ok (.iinc 2 1, 3) := by decide +kernel
set_option maxRecDepth 20000 in
theorem dX4_shutOnes_33 : decode cX4_shutOnes 33 = .ok (.goto (-29), 3) := by decide +kernel
set_option maxRecDepth 20000 in
theorem dX4_shutOnes_36 : decode cX4_shutOnes 36 = .ok (.iload_n 1, 1) := by decide +kernel
set_option maxRecDepth 20000 in
theorem dX4_shutOnes_37 : decode cX4_shutOnes 37 = .ok (.ireturn, 1) := by decide +kernel
set_option maxRecDepth 20000 in
theorem dX4_howManyOpen_0 : decode cX4_howManyOpen 0 = .ok (.aload_n 0, 1) := by decide +kernel
set_option maxRecDepth 20000 in
theorem dX4_howManyOpen_1 : decode cX4_howManyOpen 1 = .ok (.getfield 17, 3) := by decide +kernel
set_option maxRecDepth 20000 in
theorem dX4_howManyOpen_4 : decode cX4_howManyOpen 4 = .ok (.aload_n 0, 1) := by decide +kernel
set_option maxRecDepth 20000 in
theorem dX4_howManyOpen_5 : decode cX4_howManyOpen 5 = .ok (.invokevirtual 88, 3) := by decide +kernel
set_option maxRecDepth 20000 in
theorem dX4_howManyOpen_8 : decode cX4_howManyOpen 8 = .ok (.invokestatic 84, 3) := by decide +kernel
set_option maxRecDepth 20000 in
theorem dX4_howManyOpen_11 : decode cX4_howManyOpen 11 = .ok (.isub, 1) := by decide +kernel
set_option maxRecDepth 20000 in
theorem dX4_howManyOpen_12 : decode cX4_howManyOpen 12 = .ok (.ireturn, 1) := by decide +kernel
set_option maxRecDepth 20000 in
theorem dX4_howManyAre_0 : decode cX4_howManyAre 0 = .ok (.iconst 0, 1) := by decide +kernel
set_option maxRecDepth 20000 in
theorem dX4_howManyAre_1 : decode cX4_howManyAre 1 = .ok (.istore_n 2, 1) := by decide +kernel
set_option maxRecDepth 20000 in
theorem dX4_howManyAre_2 : decode cX4_howManyAre 2 = .ok (.iconst 0, 1) := by decide +kernel
set_option maxRecDepth 20000 in
theorem dX4_howManyAre_3 : decode cX4_howManyAre 3 = .ok (.istore_n 3, 1) := by decide +kernel
set_option maxRecDepth 20000 in
theorem dX4_howManyAre_4 : decode cX4_howManyAre 4 = .ok (.iload_n 3, 1) := by decide +kernel
set_option maxRecDepth 20000 in
theorem dX4_howManyAre_5 : decode cX4_howManyAre 5 = .ok (.aload_n 0, 1) := by decide +kernel
set_option maxRecDepth 20000 in
theorem dX4_howManyAre_6 : decode cX4_howManyAre 6 = .ok (.getfield 17, 3) := by decide +kernel
set_option maxRecDepth 20000 in
theorem dX4_howManyAre_9 : decode cX4_howManyAre 9 = .ok (.if_icmp .ge 33, 3) := by decide +kernel
set_option maxRecDepth 20000 in
theorem dX4_howManyAre_12 : decode cX4_howManyAre 12 = .ok (.iload_n 2, 1) := by decide +kernel
set_option maxRecDepth 20000 in
theorem dX4_howManyAre_13 : decode cX4_howManyAre 13 = .ok (.aload_n 0, 1) := by decide +kernel
set_option maxRecDepth 20000 in
theorem dX4_howManyAre_14 : decode cX4_howManyAre 14 = .ok (.getfield 11, 3) := by decide +kernel
set_option maxRecDepth 20000 in
theorem dX4_howManyAre_17 : decode cX4_howManyAre 17 = .ok (.iload_n 3, 1) := by decide +kernel
set_option maxRecDepth 20000 in
theorem dX4_howManyAre_18 : decode cX4_howManyAre 18 = .ok (.aaload, 1) := by decide +kernel
set_option maxRecDepth 20000 in
theorem dX4_howManyAre_19 : decode cX4_howManyAre 19 = .ok (.getfield 29, 3) := by decide +kernel
set_option maxRecDepth 20000 in
theorem dX4_howManyAre_22 : decode cX4_howManyAre 22 = .ok (.iload_n 1, 1) := by decide +kernel
set_option maxRecDepth 20000 in
theorem dX4_howManyAre_23 : decode cX4_howManyAre 23 = .ok (.invokestatic 91, 3) := by decide +kernel
set_option maxRecDepth 20000 in
theorem dX4_howManyAre_26 : decode cX4_howManyAre 26 = .ok (.ifCond .eq 7, 3) := by decide +kernel
set_option maxRecDepth 20000 in
theorem dX4_howManyAre_29 : decode cX4_howManyAre 29 = .ok (.iconst 1, 1) := by decide +kernel
set_option maxRecDepth 20000 in
theorem dX4_howManyAre_30 : decode cX4_howManyAre 30 = .ok (.goto 4, 3) := by decide +kernel
set_option maxRecDepth 20000 in
theorem dX4_howManyAre_33 : decode cX4_howManyAre 33 = .ok (.iconst 0, 1) := by decide +kernel
set_option maxRecDepth 20000 in
theorem dX4_howManyAre_34 : decode cX4_howManyAre 34 = .ok (.iadd, 1) := by decide +kernel
set_option maxRecDepth 20000 in
theorem dX4_howManyAre_35 : decode cX4_howManyAre 35 = .ok (.istore_n 2, 1) := by decide +kernel
set_option maxRecDepth 20000 in
theorem dX4_howManyAre_36 : decode cX4_howManyAre 36 = .ok (.iinc 3 1, 3) := by decide +kernel
set_option maxRecDepth 20000 in
theorem dX4_howManyAre_39 : decode cX4_howManyAre 39 = .ok (.goto (-35), 3) := by decide +kernel
set_option maxRecDepth 20000 in
theorem dX4_howManyAre_42 : decode cX4_howManyAre 42 = .ok (.iload_n 2, 1) := by decide +kernel
set_option maxRecDepth 20000 in
theorem dX4_howManyAre_43 : decode cX4_howManyAre 43 = .ok (.ireturn, 1) := by decide +kernel
set_option maxRecDepth 20000 in
theorem dX4_cellsThatShowOne_0 : decode cX4_cellsThatShowOne 0 = .ok (.lconst 0, 1) := by decide +kernel
set_option maxRecDepth 20000 in
theorem dX4_cellsThatShowOne_1 : decode cX4_cellsThatShowOne 1 = .ok (.lstore_n 1, 1) := by decide +kernel
set_option maxRecDepth 20000 in
theorem dX4_cellsThatShowOne_2 : decode cX4_cellsThatShowOne 2 = .ok (.lconst 0, 1) := by decide +kernel
set_option maxRecDepth 20000 in
theorem dX4_cellsThatShowOne_3 : decode cX4_cellsThatShowOne 3 = .ok (.lstore_n 3, 1) := by decide +kernel
set_option maxRecDepth 20000 in
theorem dX4_cellsThatShowOne_4 : decode cX4_cellsThatShowOne 4 = .ok (.iconst 0, 1) := by decide +kernel
set_option maxRecDepth 20000 in
theorem dX4_cellsThatShowOne_5 : decode cX4_cellsThatShowOne 5 = .ok (.istore 5, 2) := by decide +kernel
set_option maxRecDepth 20000 in
theorem dX4_cellsThatShowOne_7 : decode cX4_cellsThatShowOne 7 = .ok (.iload 5, 2) := by decide +kernel
set_option maxRecDepth 20000 in
theorem dX4_cellsThatShowOne_9 : decode cX4_cellsThatShowOne 9 = .ok (.aload_n 0, 1) := by decide +kernel
set_option maxRecDepth 20000 in
theorem dX4_cellsThatShowOne_10 : decode cX4_cellsThatShowOne 10 = .ok (.getfield 17, 3) := by decide +kernel
set_option maxRecDepth 20000 in
theorem dX4_cellsThatShowOne_13 : decode cX4_cellsThatShowOne 13 = .ok (.if_icmp .ge 48, 3) := by decide +kernel
set_option maxRecDepth 20000 in
theorem dX4_cellsThatShowOne_16 : decode cX4_cellsThatShowOne 16 = .ok (.aload_n 0, 1) := by decide +kernel
set_option maxRecDepth 20000 in
theorem dX4_cellsThatShowOne_17 : decode cX4_cellsThatShowOne 17 = .ok (.getfield 11, 3) := by decide +kernel
set_option maxRecDepth 20000 in
theorem dX4_cellsThatShowOne_20 : decode cX4_cellsThatShowOne 20 = .ok (.iload 5, 2) := by decide +kernel
set_option maxRecDepth 20000 in
theorem dX4_cellsThatShowOne_22 : decode cX4_cellsThatShowOne 22 = .ok (.aaload, 1) := by decide +kernel
set_option maxRecDepth 20000 in
theorem dX4_cellsThatShowOne_23 : decode cX4_cellsThatShowOne 23 = .ok (.getfield 40, 3) := by decide +kernel
set_option maxRecDepth 20000 in
theorem dX4_cellsThatShowOne_26 : decode cX4_cellsThatShowOne 26 = .ok (.ifCond .eq 29, 3) := by decide +kernel
set_option maxRecDepth 20000 in
theorem dX4_cellsThatShowOne_29 : decode cX4_cellsThatShowOne 29 = .ok (.lload_n 1, 1) := by decide +kernel
set_option maxRecDepth 20000 in
theorem dX4_cellsThatShowOne_30 : decode cX4_cellsThatShowOne 30 = .ok (.aload_n 0, 1) := by decide +kernel
set_option maxRecDepth 20000 in
theorem dX4_cellsThatShowOne_31 : decode cX4_cellsThatShowOne 31 = .ok (.getfield 11, 3) := by decide +kernel
set_option maxRecDepth 20000 in
theorem dX4_cellsThatShowOne_34 : decode cX4_cellsThatShowOne 34 = .ok (.iload 5, 2) := by decide +kernel
set_option maxRecDepth 20000 in
theorem dX4_cellsThatShowOne_36 : decode cX4_cellsThatShowOne 36 = .ok (.aaload, 1) := by decide +kernel
set_option maxRecDepth 20000 in
theorem dX4_cellsThatShowOne_37 : decode cX4_cellsThatShowOne 37 = .ok (.getfield 44, 3) := by decide +kernel
set_option maxRecDepth 20000 in
theorem dX4_cellsThatShowOne_40 : decode cX4_cellsThatShowOne 40 = .ok (.lor, 1) := by decide +kernel
set_option maxRecDepth 20000 in
theorem dX4_cellsThatShowOne_41 : decode cX4_cellsThatShowOne 41 = .ok (.lstore_n 1, 1) := by decide +kernel
set_option maxRecDepth 20000 in
theorem dX4_cellsThatShowOne_42 : decode cX4_cellsThatShowOne 42 = .ok (.lload_n 3, 1) := by decide +kernel
set_option maxRecDepth 20000 in
theorem dX4_cellsThatShowOne_43 : decode cX4_cellsThatShowOne 43 = .ok (.aload_n 0, 1) := by decide +kernel
set_option maxRecDepth 20000 in
theorem dX4_cellsThatShowOne_44 : decode cX4_cellsThatShowOne 44 = .ok (.getfield 11, 3) := by decide +kernel
set_option maxRecDepth 20000 in
theorem dX4_cellsThatShowOne_47 : decode cX4_cellsThatShowOne 47 = .ok (.iload 5, 2) := by decide +kernel
set_option maxRecDepth 20000 in
theorem dX4_cellsThatShowOne_49 : decode cX4_cellsThatShowOne 49 = .ok (.aaload, 1) := by decide +kernel
set_option maxRecDepth 20000 in
theorem dX4_cellsThatShowOne_50 : decode cX4_cellsThatShowOne 50 = .ok (.getfield 48, 3) := by decide +kernel
set_option maxRecDepth 20000 in
theorem dX4_cellsThatShowOne_53 : decode cX4_cellsThatShowOne 53 = .ok (.lor, 1) := by decide +kernel
set_option maxRecDepth 20000 in
theorem dX4_cellsThatShowOne_54 : decode cX4_cellsThatShowOne 54 = .ok (.lstore_n 3, 1) := by decide +kernel
set_option maxRecDepth 20000 in
theorem dX4_cellsThatShowOne_55 : decode cX4_cellsThatShowOne 55 = .ok (.iinc 5 1, 3) := by decide +kernel
set_option maxRecDepth 20000 in
theorem dX4_cellsThatShowOne_58 : decode cX4_cellsThatShowOne 58 = .ok (.goto (-51), 3) := by decide +kernel
set_option maxRecDepth 20000 in
theorem dX4_cellsThatShowOne_61 : decode cX4_cellsThatShowOne 61 = .ok (.lload_n 1, 1) := by decide +kernel
set_option maxRecDepth 20000 in
theorem dX4_cellsThatShowOne_62 : decode cX4_cellsThatShowOne 62 = .ok (.invokestatic 57, 3) := by decide +kernel
set_option maxRecDepth 20000 in
theorem dX4_cellsThatShowOne_65 : decode cX4_cellsThatShowOne 65 = .ok (.lload_n 3, 1) := by decide +kernel
set_option maxRecDepth 20000 in
theorem dX4_cellsThatShowOne_66 : decode cX4_cellsThatShowOne 66 = .ok (.invokestatic 57, 3) := by decide +kernel
set_option maxRecDepth 20000 in
theorem dX4_cellsThatShowOne_69 : decode cX4_cellsThatShowOne 69 = .ok (.iadd, 1) := by decide +kernel
set_option maxRecDepth 20000 in
theorem dX4_cellsThatShowOne_70 : decode cX4_cellsThatShowOne 70 = .ok (.ireturn, 1) := by decide +kernel
set_option maxRecDepth 20000 in
theorem dX4_agreesWith_0 : decode cX4_agreesWith 0 = .ok (.iconst 0, 1) := by decide +kernel
set_option maxRecDepth 20000 in
theorem dX4_agreesWith_1 : decode cX4_agreesWith 1 = .ok (.istore_n 2, 1) := by decide +kernel
set_option maxRecDepth 20000 in
theorem dX4_agreesWith_2 : decode cX4_agreesWith 2 = .ok (.iload_n 2, 1) := by decide +kernel
set_option maxRecDepth 20000 in
theorem dX4_agreesWith_3 : decode cX4_agreesWith 3 = .ok (.iconst 1, 1) := by decide +kernel
set_option maxRecDepth 20000 in
theorem dX4_agreesWith_4 : decode cX4_agreesWith 4 = .ok (.iadd, 1) := by decide +kernel
set_option maxRecDepth 20000 in
theorem dX4_agreesWith_5 : decode cX4_agreesWith 5 = .ok (.aload_n 1, 1) := by decide +kernel
set_option maxRecDepth 20000 in
theorem dX4_agreesWith_6 : decode cX4_agreesWith 6 = .ok (.getfield 95, 3) := by decide +kernel
set_option maxRecDepth 20000 in
theorem dX4_agreesWith_9 : decode cX4_agreesWith 9 = .ok (.if_icmp .ge 32, 3) := by decide +kernel
set_option maxRecDepth 20000 in
theorem dX4_agreesWith_12 : decode cX4_agreesWith 12 = .ok (.aload_n 0, 1) := by decide +kernel
set_option maxRecDepth 20000 in
theorem dX4_agreesWith_13 : decode cX4_agreesWith 13 = .ok (.aload_n 1, 1) := by decide +kernel
set_option maxRecDepth 20000 in
theorem dX4_agreesWith_14 : decode cX4_agreesWith 14 = .ok (.getfield 98, 3) := by decide +kernel
set_option maxRecDepth 20000 in
theorem dX4_agreesWith_17 : decode cX4_agreesWith 17 = .ok (.iload_n 2, 1) := by decide +kernel
set_option maxRecDepth 20000 in
theorem dX4_agreesWith_18 : decode cX4_agreesWith 18 = .ok (.iaload, 1) := by decide +kernel
set_option maxRecDepth 20000 in
theorem dX4_agreesWith_19 : decode cX4_agreesWith 19 = .ok (.invokevirtual 102, 3) := by decide +kernel
set_option maxRecDepth 20000 in
theorem dX4_agreesWith_22 : decode cX4_agreesWith 22 = .ok (.aload_n 1, 1) := by decide +kernel
set_option maxRecDepth 20000 in
theorem dX4_agreesWith_23 : decode cX4_agreesWith 23 = .ok (.getfield 98, 3) := by decide +kernel
set_option maxRecDepth 20000 in
theorem dX4_agreesWith_26 : decode cX4_agreesWith 26 = .ok (.iload_n 2, 1) := by decide +kernel
set_option maxRecDepth 20000 in
theorem dX4_agreesWith_27 : decode cX4_agreesWith 27 = .ok (.iconst 1, 1) := by decide +kernel
set_option maxRecDepth 20000 in
theorem dX4_agreesWith_28 : decode cX4_agreesWith 28 = .ok (.iadd, 1) := by decide +kernel
set_option maxRecDepth 20000 in
theorem dX4_agreesWith_29 : decode cX4_agreesWith 29 = .ok (.iaload, 1) := by decide +kernel
set_option maxRecDepth 20000 in
theorem dX4_agreesWith_30 : decode cX4_agreesWith 30 = .ok (.if_icmp .eq 5, 3) := by decide +kernel
set_option maxRecDepth 20000 in
theorem dX4_agreesWith_33 : decode cX4_agreesWith 33 = .ok (.iconst 0, 1) := by decide +kernel
set_option maxRecDepth 20000 in
theorem dX4_agreesWith_34 : decode cX4_agreesWith 34 = .ok (.ireturn, 1) := by decide +kernel
set_option maxRecDepth 20000 in
theorem dX4_agreesWith_35 : decode cX4_agreesWith 35 = .ok (.iinc 2 2, 3) := by decide +kernel
set_option maxRecDepth 20000 in
theorem dX4_agreesWith_38 : decode cX4_agreesWith 38 = .ok (.goto (-36), 3) := by decide +kernel
set_option maxRecDepth 20000 in
theorem dX4_agreesWith_41 : decode cX4_agreesWith 41 = .ok (.iconst 1, 1) := by decide +kernel
set_option maxRecDepth 20000 in
theorem dX4_agreesWith_42 : decode cX4_agreesWith 42 = .ok (.ireturn, 1) := by decide +kernel
set_option maxRecDepth 20000 in
theorem dX5_init_0 : decode cX5_init 0 = .ok (.aload_n 0, 1) := by decide +kernel
set_option maxRecDepth 20000 in
theorem dX5_init_1 : decode cX5_init 1 = .ok (.invokespecial 3, 3) := by decide +kernel
set_option maxRecDepth 20000 in
theorem dX5_init_4 : decode cX5_init 4 = .ok (.aload_n 0, 1) := by decide +kernel
set_option maxRecDepth 20000 in
theorem dX5_init_5 : decode cX5_init 5 = .ok (.bipush 60, 2) := by decide +kernel
set_option maxRecDepth 20000 in
theorem dX5_init_7 : decode cX5_init 7 = .ok (.newarray .byte, 2) := by decide +kernel
set_option maxRecDepth 20000 in
theorem dX5_init_9 : decode cX5_init 9 = .ok (.putfield 9, 3) := by decide +kernel
set_option maxRecDepth 20000 in
theorem dX5_init_12 : decode cX5_init 12 = .ok (.aload_n 0, 1) := by decide +kernel
set_option maxRecDepth 20000 in
theorem dX5_init_13 : decode cX5_init 13 = .ok (.iconst (-1), 1) := by decide +kernel
set_option maxRecDepth 20000 in
theorem dX5_init_14 : decode cX5_init 14 = .ok (.putfield 15, 3) := by decide +kernel
set_option maxRecDepth 20000 in
theorem dX5_init_17 : decode cX5_init 17 = .ok (.return_, 1) := by decide +kernel
set_option maxRecDepth 20000 in
theorem dX5_renew_0 : decode cX5_renew 0 = .ok (.aload_n 0, 1) := by decide +kernel
set_option maxRecDepth 20000 in
theorem dX5_renew_1 : decode cX5_renew 1 = .ok (.getfield 9, 3) := by decide +kernel
set_option maxRecDepth 20000 in
theorem dX5_renew_4 : decode cX5_renew 4 = .ok (.bipush 32, 2) := by decide +kernel
set_option maxRecDepth 20000 in
theorem dX5_renew_6 : decode cX5_renew 6 = .ok (.invokestatic 19, 3) := by decide +kernel
set_option maxRecDepth 20000 in
theorem dX5_renew_9 : decode cX5_renew 9 = .ok (.aload_n 0, 1) := by decide +kernel
set_option maxRecDepth 20000 in
theorem dX5_renew_10 : decode cX5_renew 10 = .ok (.iload_n 1, 1) := by decide +kernel
set_option maxRecDepth 20000 in
theorem dX5_renew_11 : decode cX5_renew 11 = .ok (.putfield 15, 3) := by decide +kernel
set_option maxRecDepth 20000 in
theorem dX5_renew_14 : decode cX5_renew 14 = .ok (.return_, 1) := by decide +kernel
set_option maxRecDepth 20000 in
theorem dX5_readInto_0 : decode cX5_readInto 0 = .ok (.aload_n 1, 1) := by decide +kernel
set_option maxRecDepth 20000 in
theorem dX5_readInto_1 : decode cX5_readInto 1 = .ok (.iconst 0, 1) := by decide +kernel
set_option maxRecDepth 20000 in
theorem dX5_readInto_2 : decode cX5_readInto 2 = .ok (.putfield 25, 3) := by decide +kernel
set_option maxRecDepth 20000 in
theorem dX5_readInto_5 : decode cX5_readInto 5 = .ok (.iconst 0, 1) := by decide +kernel
set_option maxRecDepth 20000 in
theorem dX5_readInto_6 : decode cX5_readInto 6 = .ok (.istore_n 2, 1) := by decide +kernel
set_option maxRecDepth 20000 in
theorem dX5_readInto_7 : decode cX5_readInto 7 = .ok (.iload_n 2, 1) := by decide +kernel
set_option maxRecDepth 20000 in
theorem dX5_readInto_8 : decode cX5_readInto 8 = .ok (.aload_n 0, 1) := by decide +kernel
set_option maxRecDepth 20000 in
theorem dX5_readInto_9 : decode cX5_readInto 9 = .ok (.getfield 15, 3) := by decide +kernel
set_option maxRecDepth 20000 in
theorem dX5_readInto_12 : decode cX5_readInto 12 = .ok (.if_icmp .ge 83, 3) := by decide +kernel
set_option maxRecDepth 20000 in
theorem dX5_readInto_15 : decode cX5_readInto 15 = .ok (.aload_n 0, 1) := by decide +kernel
set_option maxRecDepth 20000 in
theorem dX5_readInto_16 : decode cX5_readInto 16 = .ok (.getfield 9, 3) := by decide +kernel
set_option maxRecDepth 20000 in
theorem dX5_readInto_19 : decode cX5_readInto 19 = .ok (.iload_n 2, 1) := by decide +kernel
set_option maxRecDepth 20000 in
theorem dX5_readInto_20 : decode cX5_readInto 20 = .ok (.baload, 1) := by decide +kernel
set_option maxRecDepth 20000 in
theorem dX5_readInto_21 : decode cX5_readInto 21 = .ok (.bipush 32, 2) := by decide +kernel
set_option maxRecDepth 20000 in
theorem dX5_readInto_23 : decode cX5_readInto 23 = .ok (.if_icmp .eq 66, 3) := by decide +kernel
set_option maxRecDepth 20000 in
theorem dX5_readInto_26 : decode cX5_readInto 26 = .ok (.aload_n 1, 1) := by decide +kernel
set_option maxRecDepth 20000 in
theorem dX5_readInto_27 : decode cX5_readInto 27 = .ok (.getfield 25, 3) := by decide +kernel
set_option maxRecDepth 20000 in
theorem dX5_readInto_30 : decode cX5_readInto 30 = .ok (.bipush 7, 2) := by decide +kernel
set_option maxRecDepth 20000 in
theorem dX5_readInto_32 : decode cX5_readInto 32 = .ok (.if_icmp .lt 5, 3) := by decide +kernel
set_option maxRecDepth 20000 in
theorem dX5_readInto_35 : decode cX5_readInto 35 = .ok (.iload_n 2, 1) := by decide +kernel
set_option maxRecDepth 20000 in
theorem dX5_readInto_36 : decode cX5_readInto 36 = .ok (.ireturn, 1) := by decide +kernel
set_option maxRecDepth 20000 in
theorem dX5_readInto_37 : decode cX5_readInto 37 = .ok (.aload_n 0, 1) := by decide +kernel
set_option maxRecDepth 20000 in
theorem dX5_readInto_38 : decode cX5_readInto 38 = .ok (.iload_n 2, 1) := by decide +kernel
set_option maxRecDepth 20000 in
theorem dX5_readInto_39 : decode cX5_readInto 39 = .ok (.aload_n 1, 1) := by decide +kernel
set_option maxRecDepth 20000 in
theorem dX5_readInto_40 : decode cX5_readInto 40 = .ok (.getfield 28, 3) := by decide +kernel
set_option maxRecDepth 20000 in
theorem dX5_readInto_43 : decode cX5_readInto 43 = .ok (.aload_n 1, 1) := by decide +kernel
set_option maxRecDepth 20000 in
theorem dX5_readInto_44 : decode cX5_readInto 44 = .ok (.getfield 25, 3) := by decide +kernel
set_option maxRecDepth 20000 in
theorem dX5_readInto_47 : decode cX5_readInto 47 = .ok (.aaload, 1) := by decide +kernel
set_option maxRecDepth 20000 in
theorem dX5_readInto_48 : decode cX5_readInto 48 = .ok (.invokevirtual 32, 3) := by decide +kernel
set_option maxRecDepth 20000 in
theorem dX5_readInto_51 : decode cX5_readInto 51 = .ok (.istore_n 3, 1) := by decide +kernel
set_option maxRecDepth 20000 in
theorem dX5_readInto_52 : decode cX5_readInto 52 = .ok (.iload_n 3, 1) := by decide +kernel
set_option maxRecDepth 20000 in
theorem dX5_readInto_53 : decode cX5_readInto 53 = .ok (.bipush (-9), 2) := by decide +kernel
set_option maxRecDepth 20000 in
theorem dX5_readInto_55 : decode cX5_readInto 55 = .ok (.if_icmp .eq 5, 3) := by decide +kernel
set_option maxRecDepth 20000 in
theorem dX5_readInto_58 : decode cX5_readInto 58 = .ok (.iload_n 3, 1) := by decide +kernel
set_option maxRecDepth 20000 in
theorem dX5_readInto_59 : decode cX5_readInto 59 = .ok (.ireturn, 1) := by decide +kernel
set_option maxRecDepth 20000 in
theorem dX5_readInto_60 : decode cX5_readInto 60 = .ok (.aload_n 1, 1) := by decide +kernel
set_option maxRecDepth 20000 in
theorem dX5_readInto_61 : decode cX5_readInto 61 = .ok (.getfield 28, 3) := by decide +kernel
set_option maxRecDepth 20000 in
theorem dX5_readInto_64 : decode cX5_readInto 64 = .ok (.aload_n 1, 1) := by decide +kernel
set_option maxRecDepth 20000 in
theorem dX5_readInto_65 : decode cX5_readInto 65 = .ok (.getfield 25, 3) := by decide +kernel
set_option maxRecDepth 20000 in
theorem dX5_readInto_68 : decode cX5_readInto 68 = .ok (.aaload, 1) := by decide +kernel
set_option maxRecDepth 20000 in
theorem dX5_readInto_69 : decode cX5_readInto 69 = .ok (.aload_n 1, 1) := by decide +kernel
set_option maxRecDepth 20000 in
theorem dX5_readInto_70 : decode cX5_readInto 70 = .ok (.getfield 25, 3) := by decide +kernel
set_option maxRecDepth 20000 in
theorem dX5_readInto_73 : decode cX5_readInto 73 = .ok (.putfield 36, 3) := by decide +kernel
set_option maxRecDepth 20000 in
theorem dX5_readInto_76 : decode cX5_readInto 76 = .ok (.aload_n 1, 1) := by decide +kernel
set_option maxRecDepth 20000 in
theorem dX5_readInto_77 : decode cX5_readInto 77 = .ok (.dup, 1) := by decide +kernel
set_option maxRecDepth 20000 in
theorem dX5_readInto_78 : decode cX5_readInto 78 = .ok (.getfield 25, 3) := by decide +kernel
set_option maxRecDepth 20000 in
theorem dX5_readInto_81 : decode cX5_readInto 81 = .ok (.iconst 1, 1) := by decide +kernel
set_option maxRecDepth 20000 in
theorem dX5_readInto_82 : decode cX5_readInto 82 = .ok (.iadd, 1) := by decide +kernel
set_option maxRecDepth 20000 in
theorem dX5_readInto_83 : decode cX5_readInto 83 = .ok (.putfield 25, 3) := by decide +kernel
set_option maxRecDepth 20000 in
theorem dX5_readInto_86 : decode cX5_readInto 86 = .ok (.iinc 2 4, 3) := by decide +kernel
set_option maxRecDepth 20000 in
theorem dX5_readInto_89 : decode cX5_readInto 89 = .ok (.iinc 2 1, 3) := by decide +kernel
set_option maxRecDepth 20000 in
theorem dX5_readInto_92 : decode cX5_readInto 92 = .ok (.goto (-85), 3) := by decide +kernel
set_option maxRecDepth 20000 in
theorem dX5_readInto_95 : decode cX5_readInto 95 = .ok (.aload_n 1, 1) := by decide +kernel
set_option maxRecDepth 20000 in
theorem dX5_readInto_96 : decode cX5_readInto 96 = .ok (.getfield 25, 3) := by decide +kernel
set_option maxRecDepth 20000 in
theorem dX5_readInto_99 : decode cX5_readInto 99 = .ok (.iconst 2, 1) := by decide +kernel
set_option maxRecDepth 20000 in
theorem dX5_readInto_100 : decode cX5_readInto 100 = .ok (.if_icmp .ge 10, 3) := by decide +kernel
set_option maxRecDepth 20000 in
theorem dX5_readInto_103 : decode cX5_readInto 103 = .ok (.aload_n 0, 1) := by decide +kernel
set_option maxRecDepth 20000 in
theorem dX5_readInto_104 : decode cX5_readInto 104 = .ok (.getfield 15, 3) := by decide +kernel
set_option maxRecDepth 20000 in
theorem dX5_readInto_107 : decode cX5_readInto 107 = .ok (.goto 5, 3) := by decide +kernel
set_option maxRecDepth 20000 in
theorem dX5_readInto_110 : decode cX5_readInto 110 = .ok (.bipush (-9), 2) := by decide +kernel
set_option maxRecDepth 20000 in
theorem dX5_readInto_112 : decode cX5_readInto 112 = .ok (.ireturn, 1) := by decide +kernel
set_option maxRecDepth 20000 in
theorem dX5_readPane_0 : decode cX5_readPane 0 = .ok (.aload_n 0, 1) := by decide +kernel
set_option maxRecDepth 20000 in
theorem dX5_readPane_1 : decode cX5_readPane 1 = .ok (.iload_n 1, 1) := by decide +kernel
set_option maxRecDepth 20000 in
theorem dX5_readPane_2 : decode cX5_readPane 2 = .ok (.invokevirtual 41, 3) := by decide +kernel
set_option maxRecDepth 20000 in
theorem dX5_readPane_5 : decode cX5_readPane 5 = .ok (.istore_n 3, 1) := by decide +kernel
set_option maxRecDepth 20000 in
theorem dX5_readPane_6 : decode cX5_readPane 6 = .ok (.iload_n 3, 1) := by decide +kernel
set_option maxRecDepth 20000 in
theorem dX5_readPane_7 : decode cX5_readPane 7 = .ok (.ifCond .ge 5, 3) := by decide +kernel
set_option maxRecDepth 20000 in
theorem dX5_readPane_10 : decode cX5_readPane 10 = .ok (.iload_n 1, 1) := by decide +kernel
set_option maxRecDepth 20000 in
theorem dX5_readPane_11 : decode cX5_readPane 11 = .ok (.ireturn, 1) := by decide +kernel
set_option maxRecDepth 20000 in
theorem dX5_readPane_12 : decode cX5_readPane 12 = .ok (.aload_n 0, 1) := by decide +kernel
set_option maxRecDepth 20000 in
theorem dX5_readPane_13 : decode cX5_readPane 13 = .ok (.iload_n 1, 1) := by decide +kernel
set_option maxRecDepth 20000 in
theorem dX5_readPane_14 : decode cX5_readPane 14 = .ok (.iconst 1, 1) := by decide +kernel
set_option maxRecDepth 20000 in
theorem dX5_readPane_15 : decode cX5_readPane 15 = .ok (.iadd, 1) := by decide +kernel
set_option maxRecDepth 20000 in
theorem dX5_readPane_16 : decode cX5_readPane 16 = .ok (.iconst 0, 1) := by decide +kernel
set_option maxRecDepth 20000 in
theorem dX5_readPane_17 : decode cX5_readPane 17 = .ok (.bipush 9, 2) := by decide +kernel
set_option maxRecDepth 20000 in
theorem dX5_readPane_19 : decode cX5_readPane 19 = .ok (.invokevirtual 45, 3) := by decide +kernel
set_option maxRecDepth 20000 in
theorem dX5_readPane_22 : decode cX5_readPane 22 = .ok (.istore 4, 2) := by decide +kernel
set_option maxRecDepth 20000 in
theorem dX5_readPane_24 : decode cX5_readPane 24 = .ok (.iload 4, 2) := by decide +kernel
set_option maxRecDepth 20000 in
theorem dX5_readPane_26 : decode cX5_readPane 26 = .ok (.ifCond .ge 7, 3) := by decide +kernel
set_option maxRecDepth 20000 in
theorem dX5_readPane_29 : decode cX5_readPane 29 = .ok (.iload_n 1, 1) := by decide +kernel
set_option maxRecDepth 20000 in
theorem dX5_readPane_30 : decode cX5_readPane 30 = .ok (.iconst 1, 1) := by decide +kernel
set_option maxRecDepth 20000 in
theorem dX5_readPane_31 : decode cX5_readPane 31 = .ok (.iadd, 1) := by decide +kernel
set_option maxRecDepth 20000 in
theorem dX5_readPane_32 : decode cX5_readPane 32 = .ok (.ireturn, 1) := by decide +kernel
set_option maxRecDepth 20000 in
theorem dX5_readPane_33 : decode cX5_readPane 33 = .ok (.aload_n 0, 1) := by decide +kernel
set_option maxRecDepth 20000 in
theorem dX5_readPane_34 : decode cX5_readPane 34 = .ok (.iload_n 1, 1) := by decide +kernel
set_option maxRecDepth 20000 in
theorem dX5_readPane_35 : decode cX5_readPane 35 = .ok (.iconst 2, 1) := by decide +kernel
set_option maxRecDepth 20000 in
theorem dX5_readPane_36 : decode cX5_readPane 36 = .ok (.iadd, 1) := by decide +kernel
set_option maxRecDepth 20000 in
theorem dX5_readPane_37 : decode cX5_readPane 37 = .ok (.iconst 0, 1) := by decide +kernel
set_option maxRecDepth 20000 in
theorem dX5_readPane_38 : decode cX5_readPane 38 = .ok (.bipush 7, 2) := by decide +kernel
set_option maxRecDepth 20000 in
theorem dX5_readPane_40 : decode cX5_readPane 40 = .ok (.invokevirtual 45, 3) := by decide +kernel
set_option maxRecDepth 20000 in
theorem dX5_readPane_43 : decode cX5_readPane 43 = .ok (.istore 5, 2) := by decide +kernel
set_option maxRecDepth 20000 in
theorem dX5_readPane_45 : decode cX5_readPane 45 = .ok (.iload 5, 2) := by decide +kernel
set_option maxRecDepth 20000 in
theorem dX5_readPane_47 : decode cX5_readPane 47 = .ok (.ifCond .ge 7, 3) := by decide +kernel
set_option maxRecDepth 20000 in
theorem dX5_readPane_50 : decode cX5_readPane 50 = .ok (.iload_n 1, 1) := by decide +kernel
set_option maxRecDepth 20000 in
theorem dX5_readPane_51 : decode cX5_readPane 51 = .ok (.iconst 2, 1) := by decide +kernel
set_option maxRecDepth 20000 in
theorem dX5_readPane_52 : decode cX5_readPane 52 = .ok (.iadd, 1) := by decide +kernel
set_option maxRecDepth 20000 in
theorem dX5_readPane_53 : decode cX5_readPane 53 = .ok (.ireturn, 1) := by decide +kernel
set_option maxRecDepth 20000 in
theorem dX5_readPane_54 : decode cX5_readPane 54 = .ok (.aload_n 0, 1) := by decide +kernel
set_option maxRecDepth 20000 in
theorem dX5_readPane_55 : decode cX5_readPane 55 = .ok (.iload_n 1, 1) := by decide +kernel
set_option maxRecDepth 20000 in
theorem dX5_readPane_56 : decode cX5_readPane 56 = .ok (.iconst 3, 1) := by decide +kernel
set_option maxRecDepth 20000 in
theorem dX5_readPane_57 : decode cX5_readPane 57 = .ok (.iadd, 1) := by decide +kernel
set_option maxRecDepth 20000 in
theorem dX5_readPane_58 : decode cX5_readPane 58 = .ok (.iconst 1, 1) := by decide +kernel
set_option maxRecDepth 20000 in
theorem dX5_readPane_59 : decode cX5_readPane 59 = .ok (.bipush 9, 2) := by decide +kernel
set_option maxRecDepth 20000 in
theorem dX5_readPane_61 : decode cX5_readPane 61 = .ok (.bipush 12, 2) := by decide +kernel
set_option maxRecDepth 20000 in
theorem dX5_readPane_63 : decode cX5_readPane 63 = .ok (.iload 4, 2) := by decide +kernel
set_option maxRecDepth 20000 in
theorem dX5_readPane_65 : decode cX5_readPane 65 = .ok (.isub, 1) := by decide +kernel
set_option maxRecDepth 20000 in
theorem dX5_readPane_66 : decode cX5_readPane 66 = .ok (.invokestatic 49, 3) := by decide +kernel
set_option maxRecDepth 20000 in
theorem dX5_readPane_69 : decode cX5_readPane 69 = .ok (.invokevirtual 45, 3) := by decide +kernel
set_option maxRecDepth 20000 in
theorem dX5_readPane_72 : decode cX5_readPane 72 = .ok (.istore 6, 2) := by decide +kernel
set_option maxRecDepth 20000 in
theorem dX5_readPane_74 : decode cX5_readPane 74 = .ok (.iload 6, 2) := by decide +kernel
set_option maxRecDepth 20000 in
theorem dX5_readPane_76 : decode cX5_readPane 76 = .ok (.ifCond .ge 7, 3) := by decide +kernel
set_option maxRecDepth 20000 in
theorem dX5_readPane_79 : decode cX5_readPane 79 = .ok (.iload_n 1, 1) := by decide +kernel
set_option maxRecDepth 20000 in
theorem dX5_readPane_80 : decode cX5_readPane 80 = .ok (.iconst 3, 1) := by decide +kernel
set_option maxRecDepth 20000 in
theorem dX5_readPane_81 : decode cX5_readPane 81 = .ok (.iadd, 1) := by decide +kernel
set_option maxRecDepth 20000 in
theorem dX5_readPane_82 : decode cX5_readPane 82 = .ok (.ireturn, 1) := by decide +kernel
set_option maxRecDepth 20000 in
theorem dX5_readPane_83 : decode cX5_readPane 83 = .ok (.aload_n 0, 1) := by decide +kernel
set_option maxRecDepth 20000 in
theorem dX5_readPane_84 : decode cX5_readPane 84 = .ok (.iload_n 1, 1) := by decide +kernel
set_option maxRecDepth 20000 in
theorem dX5_readPane_85 : decode cX5_readPane 85 = .ok (.iconst 4, 1) := by decide +kernel
set_option maxRecDepth 20000 in
theorem dX5_readPane_86 : decode cX5_readPane 86 = .ok (.iadd, 1) := by decide +kernel
set_option maxRecDepth 20000 in
theorem dX5_readPane_87 : decode cX5_readPane 87 = .ok (.iconst 1, 1) := by decide +kernel
set_option maxRecDepth 20000 in
theorem dX5_readPane_88 : decode cX5_readPane 88 = .ok (.bipush 8, 2) := by decide +kernel
set_option maxRecDepth 20000 in
theorem dX5_readPane_90 : decode cX5_readPane 90 = .ok (.iload 5, 2) := by decide +kernel
set_option maxRecDepth 20000 in
theorem dX5_readPane_92 : decode cX5_readPane 92 = .ok (.isub, 1) := by decide +kernel
set_option maxRecDepth 20000 in
theorem dX5_readPane_93 : decode cX5_readPane 93 = .ok (.invokevirtual 45, 3) := by decide +kernel
set_option maxRecDepth 20000 in
theorem dX5_readPane_96 : decode cX5_readPane 96 = .ok (.istore 7, 2) := by decide +kernel
set_option maxRecDepth 20000 in
theorem dX5_readPane_98 : decode cX5_readPane 98 = .ok (.iload 7, 2) := by decide +kernel
set_option maxRecDepth 20000 in
theorem dX5_readPane_100 : decode cX5_readPane 100 = .ok (.ifCond .ge 7, 3) := by decide +kernel
set_option maxRecDepth 20000 in
theorem dX5_readPane_103 : decode cX5_readPane 103 = .ok (.iload_n 1, 1) := by decide +kernel
set_option maxRecDepth 20000 in
theorem dX5_readPane_104 : decode cX5_readPane 104 = .ok (.iconst 4, 1) := by decide +kernel
set_option maxRecDepth 20000 in
theorem dX5_readPane_105 : decode cX5_readPane 105 = .ok (.iadd, 1) := by decide +kernel
set_option maxRecDepth 20000 in
theorem dX5_readPane_106 : decode cX5_readPane 106 = .ok (.ireturn, 1) := by decide +kernel
set_option maxRecDepth 20000 in
theorem dX5_readPane_107 : decode cX5_readPane 107 = .ok (.aload_n 2, 1) := by decide +kernel
set_option maxRecDepth 20000 in
theorem dX5_readPane_108 : decode cX5_readPane 108 = .ok (.iload 6, 2) := by decide +kernel
set_option maxRecDepth 20000 in
theorem dX5_readPane_110 : decode cX5_readPane 110 = .ok (.putfield 55, 3) := by decide +kernel
set_option maxRecDepth 20000 in
theorem dX5_readPane_113 : decode cX5_readPane 113 = .ok (.aload_n 2, 1) := by decide +kernel
set_option maxRecDepth 20000 in
theorem dX5_readPane_114 : decode cX5_readPane 114 = .ok (.iload 7, 2) := by decide +kernel
set_option maxRecDepth 20000 in
theorem dX5_readPane_116 : decode cX5_readPane 116 = .ok (.putfield 58, 3) := by decide +kernel
set_option maxRecDepth 20000 in
theorem dX5_readPane_119 : decode cX5_readPane 119 = .ok (.aload_n 2, 1) := by decide +kernel
set_option maxRecDepth 20000 in
theorem dX5_readPane_120 : decode cX5_readPane 120 = .ok (.iload_n 3, 1) := by decide +kernel
set_option maxRecDepth 20000 in
theorem dX5_readPane_121 : decode cX5_readPane 121 = .ok (.putfield 61, 3) := by decide +kernel
set_option maxRecDepth 20000 in
theorem dX5_readPane_124 : decode cX5_readPane 124 = .ok (.aload_n 2, 1) := by decide +kernel
set_option maxRecDepth 20000 in
theorem dX5_readPane_125 : decode cX5_readPane 125 = .ok (.iconst 1, 1) := by decide +kernel
set_option maxRecDepth 20000 in
theorem dX5_readPane_126 : decode cX5_readPane 126 = .ok (.putfield 64, 3) := by decide +kernel
set_option maxRecDepth 20000 in
theorem dX5_readPane_129 : decode cX5_readPane 129 = .ok (.aload_n 2, 1) := by decide +kernel
set_option maxRecDepth 20000 in
theorem dX5_readPane_130 : decode cX5_readPane 130 = .ok (.iload 4, 2) := by decide +kernel
set_option maxRecDepth 20000 in
theorem dX5_readPane_132 : decode cX5_readPane 132 = .ok (.iload 5, 2) := by decide +kernel
set_option maxRecDepth 20000 in
theorem dX5_readPane_134 : decode cX5_readPane 134 = .ok (.invokevirtual 68, 3) := by decide +kernel
set_option maxRecDepth 20000 in
theorem dX5_readPane_137 : decode cX5_readPane 137 = .ok (.bipush (-9), 2) := by decide +kernel
set_option maxRecDepth 20000 in
theorem dX5_readPane_139 : decode cX5_readPane 139 = .ok (.ireturn, 1) := by decide +kernel
set_option maxRecDepth 20000 in
theorem dX5_kindAt_0 : decode cX5_kindAt 0 = .ok (.iconst 0, 1) := by decide +kernel
set_option maxRecDepth 20000 in
theorem dX5_kindAt_1 : decode cX5_kindAt 1 = .ok (.istore_n 2, 1) := by decide +kernel
set_option maxRecDepth 20000 in
theorem dX5_kindAt_2 : decode cX5_kindAt 2 = .ok (.iload_n 2, 1) := by decide +kernel
set_option maxRecDepth 20000 in
theorem dX5_kindAt_3 : decode cX5_kindAt 3 = .ok (.bipush 6, 2) := by decide +kernel
set_option maxRecDepth 20000 in
theorem dX5_kindAt_5 : decode cX5_kindAt 5 = .ok (.if_icmp .ge 25, 3) := by decide +kernel
set_option maxRecDepth 20000 in
theorem dX5_kindAt_8 : decode cX5_kindAt 8 = .ok (.aload_n 0, 1) := by decide +kernel
set_option maxRecDepth 20000 in
theorem dX5_kindAt_9 : decode cX5_kindAt 9 = .ok (.getfield 9, 3) := by decide +kernel
set_option maxRecDepth 20000 in
theorem dX5_kindAt_12 : decode cX5_kindAt 12 = .ok (.iload_n 1, 1) := by decide +kernel
set_option maxRecDepth 20000 in
theorem dX5_kindAt_13 : decode cX5_kindAt 13 = .ok (.baload, 1) := by decide +kernel
set_option maxRecDepth 20000 in
theorem dX5_kindAt_14 : decode cX5_kindAt 14 = .ok (.getstatic 72, 3) := by decide +kernel
set_option maxRecDepth 20000 in
theorem dX5_kindAt_17 : decode cX5_kindAt 17 = .ok (.iload_n 2, 1) := by decide +kernel
set_option maxRecDepth 20000 in
theorem dX5_kindAt_18 : decode cX5_kindAt 18 = .ok (.iaload, 1) := by decide +kernel
set_option maxRecDepth 20000 in
theorem dX5_kindAt_19 : decode cX5_kindAt 19 = .ok (.if_icmp .ne 5, 3) := by decide +kernel
set_option maxRecDepth 20000 in
theorem dX5_kindAt_22 : decode cX5_kindAt 22 = .ok (.iload_n 2, 1) := by decide +kernel
set_option maxRecDepth 20000 in
theorem dX5_kindAt_23 : decode cX5_kindAt 23 = .ok (.ireturn, 1) := by decide +kernel
set_option maxRecDepth 20000 in
theorem dX5_kindAt_24 : decode cX5_kindAt 24 = .ok (.iinc 2 1, 3) := by decide +kernel
set_option maxRecDepth 20000 in
theorem dX5_kindAt_27 : decode cX5_kindAt 27 = .ok (.goto (-25), 3) := by decide +kernel
set_option maxRecDepth 20000 in
theorem dX5_kindAt_30 : decode cX5_kindAt 30 = .ok (.iconst (-1), 1) := by decide +kernel
set_option maxRecDepth 20000 in
theorem dX5_kindAt_31 : decode cX5_kindAt 31 = .ok (.ireturn, 1) := by decide +kernel
set_option maxRecDepth 20000 in
theorem dX5_figureAt_0 : decode cX5_figureAt 0 = .ok (.iload_n 1, 1) := by decide +kernel
set_option maxRecDepth 20000 in
theorem dX5_figureAt_1 : decode cX5_figureAt 1 = .ok (.aload_n 0, 1) := by decide +kernel
set_option maxRecDepth 20000 in
theorem dX5_figureAt_2 : decode cX5_figureAt 2 = .ok (.getfield 15, 3) := by decide +kernel
set_option maxRecDepth 20000 in
theorem dX5_figureAt_5 : decode cX5_figureAt 5 = .ok (.if_icmp .lt 5, 3) := by decide +kernel
set_option maxRecDepth 20000 in
theorem dX5_figureAt_8 : decode cX5_figureAt 8 = .ok (.iconst (-1), 1) := by decide +kernel
set_option maxRecDepth 20000 in
theorem dX5_figureAt_9 : decode cX5_figureAt 9 = .ok (.ireturn, 1) := by decide +kernel
set_option maxRecDepth 20000 in
theorem dX5_figureAt_10 : decode cX5_figureAt 10 = .ok (.aload_n 0, 1) := by decide +kernel
set_option maxRecDepth 20000 in
theorem dX5_figureAt_11 : decode cX5_figureAt 11 = .ok (.getfield 9, 3) := by decide +kernel
set_option maxRecDepth 20000 in
theorem dX5_figureAt_14 : decode cX5_figureAt 14 = .ok (.iload_n 1, 1) := by decide +kernel
set_option maxRecDepth 20000 in
theorem dX5_figureAt_15 : decode cX5_figureAt 15 = .ok (.baload, 1) := by decide +kernel
set_option maxRecDepth 20000 in
theorem dX5_figureAt_16 : decode cX5_figureAt 16 = .ok (.bipush 48, 2) := by decide +kernel
set_option maxRecDepth 20000 in
theorem dX5_figureAt_18 : decode cX5_figureAt 18 = .ok (.isub, 1) := by decide +kernel
set_option maxRecDepth 20000 in
theorem dX5_figureAt_19 : decode cX5_figureAt 19 = .ok (.istore 4, 2) := by decide +kernel
set_option maxRecDepth 20000 in
theorem dX5_figureAt_21 : decode cX5_figureAt 21 = .ok (.iload 4, 2) := by decide +kernel
set_option maxRecDepth 20000 in
theorem dX5_figureAt_23 : decode cX5_figureAt 23 = .ok (.iload_n 2, 1) := by decide +kernel
set_option maxRecDepth 20000 in
theorem dX5_figureAt_24 : decode cX5_figureAt 24 = .ok (.if_icmp .lt 9, 3) := by decide +kernel
set_option maxRecDepth 20000 in
theorem dX5_figureAt_27 : decode cX5_figureAt 27 = .ok (.iload 4, 2) := by decide +kernel
set_option maxRecDepth 20000 in
theorem dX5_figureAt_29 : decode cX5_figureAt 29 = .ok (.iload_n 3, 1) := by decide +kernel
set_option maxRecDepth 20000 in
theorem dX5_figureAt_30 : decode cX5_figureAt 30 = .ok (.if_icmp .le 7, 3) := by decide +kernel
set_option maxRecDepth 20000 in
theorem dX5_figureAt_33 : decode cX5_figureAt 33 = .ok (.iconst (-1), 1) := by decide +kernel
set_option maxRecDepth 20000 in
theorem dX5_figureAt_34 : decode cX5_figureAt 34 = .ok (.goto 5, 3) := by decide +kernel
set_option maxRecDepth 20000 in
theorem dX5_figureAt_37 : decode cX5_figureAt 37 = .ok (.iload 4, 2) := by decide +kernel
set_option maxRecDepth 20000 in
theorem dX5_figureAt_39 : decode cX5_figureAt 39 = .ok (.ireturn, 1) := by decide +kernel
set_option maxRecDepth 20000 in
theorem dX5_digestFrom_0 : decode cX5_digestFrom 0 = .ok (.ldc2_w 76, 3) := by decide +kernel
set_option maxRecDepth 20000 in
theorem dX5_digestFrom_3 : decode cX5_digestFrom 3 = .ok (.lload_n 1, 1) := by decide +kernel
set_option maxRecDepth 20000 in
theorem dX5_digestFrom_4 : decode cX5_digestFrom 4 = .ok (.lmul, 1) := by decide +kernel
set_option maxRecDepth 20000 in
theorem dX5_digestFrom_5 : decode cX5_digestFrom 5 = .ok (.aload_n 0, 1) := by decide +kernel
set_option maxRecDepth 20000 in
theorem dX5_digestFrom_6 : decode cX5_digestFrom 6 = .ok (.getfield 15, 3) := by decide +kernel
set_option maxRecDepth 20000 in
theorem dX5_digestFrom_9 : decode cX5_digestFrom 9 = .ok (.i2l, 1) := by decide +kernel
set_option maxRecDepth 20000 in
theorem dX5_digestFrom_10 : decode cX5_digestFrom 10 = .ok (.ladd, 1) := by decide +kernel
set_option maxRecDepth 20000 in
theorem dX5_digestFrom_11 : decode cX5_digestFrom 11 = .ok (.lstore_n 3, 1) := by decide +kernel
set_option maxRecDepth 20000 in
theorem dX5_digestFrom_12 : decode cX5_digestFrom 12 = .ok (.iconst 0, 1) := by decide +kernel
set_option maxRecDepth 20000 in
theorem dX5_digestFrom_13 : decode cX5_digestFrom 13 = .ok (.istore 5, 2) := by decide +kernel
set_option maxRecDepth 20000 in
theorem dX5_digestFrom_15 : decode cX5_digestFrom 15 = .ok (.iload 5, 2) := by decide +kernel
set_option maxRecDepth 20000 in
theorem dX5_digestFrom_17 : decode cX5_digestFrom 17 = .ok (.aload_n 0, 1) := by decide +kernel
set_option maxRecDepth 20000 in
theorem dX5_digestFrom_18 : decode cX5_digestFrom 18 = .ok (.getfield 15, 3) := by decide +kernel
set_option maxRecDepth 20000 in
theorem dX5_digestFrom_21 : decode cX5_digestFrom 21 = .ok (.if_icmp .ge 24, 3) := by decide +kernel
set_option maxRecDepth 20000 in
theorem dX5_digestFrom_24 : decode cX5_digestFrom 24 = .ok (.ldc2_w 76, 3) := by decide +kernel
set_option maxRecDepth 20000 in
theorem dX5_digestFrom_27 : decode cX5_digestFrom 27 = .ok (.lload_n 3, 1) := by decide +kernel
set_option maxRecDepth 20000 in
theorem dX5_digestFrom_28 : decode cX5_digestFrom 28 = .ok (.lmul, 1) := by decide +kernel
set_option maxRecDepth 20000 in
theorem dX5_digestFrom_29 : decode cX5_digestFrom 29 = .ok (.aload_n 0, 1) := by decide +kernel
set_option maxRecDepth 20000 in
theorem dX5_digestFrom_30 : decode cX5_digestFrom 30 = .ok (.getfield 9, 3) := by decide +kernel
set_option maxRecDepth 20000 in
theorem dX5_digestFrom_33 : decode cX5_digestFrom 33 = .ok (.iload 5, 2) := by decide +kernel
set_option maxRecDepth 20000 in
theorem dX5_digestFrom_35 : decode cX5_digestFrom 35 = .ok (.baload, 1) := by decide +kernel
set_option maxRecDepth 20000 in
theorem dX5_digestFrom_36 : decode cX5_digestFrom 36 = .ok (.i2l, 1) := by decide +kernel
set_option maxRecDepth 20000 in
theorem dX5_digestFrom_37 : decode cX5_digestFrom 37 = .ok (.ladd, 1) := by decide +kernel
set_option maxRecDepth 20000 in
theorem dX5_digestFrom_38 : decode cX5_digestFrom 38 = .ok (.lstore_n 3, 1) := by decide +kernel
set_option maxRecDepth 20000 in
theorem dX5_digestFrom_39 : decode cX5_digestFrom 39 = .ok (.iinc 5 1, 3) := by decide +kernel
set_option maxRecDepth 20000 in
theorem dX5_digestFrom_42 : decode cX5_digestFrom 42 = .ok (.goto (-27), 3) := by decide +kernel
set_option maxRecDepth 20000 in
theorem dX5_digestFrom_45 : decode cX5_digestFrom 45 = .ok (.lload_n 3, 1) := by decide +kernel
set_option maxRecDepth 20000 in
theorem dX5_digestFrom_46 : decode cX5_digestFrom 46 = .ok (.lreturn, 1) := by decide +kernel
set_option maxRecDepth 20000 in
theorem dX6_init_0 : decode cX6_init 0 = .ok (.aload_n 0, 1) := by decide +kernel
set_option maxRecDepth 20000 in
theorem dX6_init_1 : decode cX6_init 1 = .ok (.invokespecial 3, 3) := by decide +kernel
set_option maxRecDepth 20000 in
theorem dX6_init_4 : decode cX6_init 4 = .ok (.aload_n 0, 1) := by decide +kernel
set_option maxRecDepth 20000 in
theorem dX6_init_5 : decode cX6_init 5 = .ok (.sipush 128, 3) := by decide +kernel
set_option maxRecDepth 20000 in
theorem dX6_init_8 : decode cX6_init 8 = .ok (.newarray .int, 2) := by decide +kernel
set_option maxRecDepth 20000 in
theorem dX6_init_10 : decode cX6_init 10 = .ok (.putfield 9, 3) := by decide +kernel
set_option maxRecDepth 20000 in
theorem dX6_init_13 : decode cX6_init 13 = .ok (.return_, 1) := by decide +kernel
set_option maxRecDepth 20000 in
theorem dX6_cellsInTheEnd_0 : decode cX6_cellsInTheEnd 0 = .ok (.iconst 1, 1) := by decide +kernel
set_option maxRecDepth 20000 in
theorem dX6_cellsInTheEnd_1 : decode cX6_cellsInTheEnd 1 = .ok (.aload_n 1, 1) := by decide +kernel
set_option maxRecDepth 20000 in
theorem dX6_cellsInTheEnd_2 : decode cX6_cellsInTheEnd 2 = .ok (.getfield 15, 3) := by decide +kernel
set_option maxRecDepth 20000 in
theorem dX6_cellsInTheEnd_5 : decode cX6_cellsInTheEnd 5 = .ok (.ishl, 1) := by decide +kernel
set_option maxRecDepth 20000 in
theorem dX6_cellsInTheEnd_6 : decode cX6_cellsInTheEnd 6 = .ok (.istore 4, 2) := by decide +kernel
set_option maxRecDepth 20000 in
theorem dX6_cellsInTheEnd_8 : decode cX6_cellsInTheEnd 8 = .ok (.iconst 0, 1) := by decide +kernel
set_option maxRecDepth 20000 in
theorem dX6_cellsInTheEnd_9 : decode cX6_cellsInTheEnd 9 = .ok (.istore 5, 2) := by decide +kernel
set_option maxRecDepth 20000 in
theorem dX6_cellsInTheEnd_11 : decode cX6_cellsInTheEnd 11 = .ok (.iload 5, 2) := by decide +kernel
set_option maxRecDepth 20000 in
theorem dX6_cellsInTheEnd_13 : decode cX6_cellsInTheEnd 13 = .ok (.iload 4, 2) := by decide +kernel
set_option maxRecDepth 20000 in
theorem dX6_cellsInTheEnd_15 : decode cX6_cellsInTheEnd 15 = .ok (.if_icmp .ge 23, 3) := by decide +kernel
set_option maxRecDepth 20000 in
theorem dX6_cellsInTheEnd_18 : decode cX6_cellsInTheEnd 18 = .ok (.aload_n 0, 1) := by decide +kernel
set_option maxRecDepth 20000 in
theorem dX6_cellsInTheEnd_19 : decode cX6_cellsInTheEnd 19 = .ok (.getfield 9, 3) := by decide +kernel
set_option maxRecDepth 20000 in
theorem dX6_cellsInTheEnd_22 : decode cX6_cellsInTheEnd 22 = .ok (.iload 5, 2) := by decide +kernel
set_option maxRecDepth 20000 in
theorem dX6_cellsInTheEnd_24 : decode cX6_cellsInTheEnd 24 = .ok (.aload_n 1, 1) := by decide +kernel
set_option maxRecDepth 20000 in
theorem dX6_cellsInTheEnd_25 : decode cX6_cellsInTheEnd 25 = .ok (.iload_n 2, 1) := by decide +kernel
set_option maxRecDepth 20000 in
theorem dX6_cellsInTheEnd_26 : decode cX6_cellsInTheEnd 26 = .ok (.iload 5, 2) := by decide +kernel
set_option maxRecDepth 20000 in
theorem dX6_cellsInTheEnd_28 : decode cX6_cellsInTheEnd 28 = .ok (.invokevirtual 21, 3) := by decide +kernel
set_option maxRecDepth 20000 in
theorem dX6_cellsInTheEnd_31 : decode cX6_cellsInTheEnd 31 = .ok (.iastore, 1) := by decide +kernel
set_option maxRecDepth 20000 in
theorem dX6_cellsInTheEnd_32 : decode cX6_cellsInTheEnd 32 = .ok (.iinc 5 1, 3) := by decide +kernel
set_option maxRecDepth 20000 in
theorem dX6_cellsInTheEnd_35 : decode cX6_cellsInTheEnd 35 = .ok (.goto (-24), 3) := by decide +kernel
set_option maxRecDepth 20000 in
theorem dX6_cellsInTheEnd_38 : decode cX6_cellsInTheEnd 38 = .ok (.iload_n 3, 1) := by decide +kernel
set_option maxRecDepth 20000 in
theorem dX6_cellsInTheEnd_39 : decode cX6_cellsInTheEnd 39 = .ok (.iconst 1, 1) := by decide +kernel
set_option maxRecDepth 20000 in
theorem dX6_cellsInTheEnd_40 : decode cX6_cellsInTheEnd 40 = .ok (.isub, 1) := by decide +kernel
set_option maxRecDepth 20000 in
theorem dX6_cellsInTheEnd_41 : decode cX6_cellsInTheEnd 41 = .ok (.istore 5, 2) := by decide +kernel
set_option maxRecDepth 20000 in
theorem dX6_cellsInTheEnd_43 : decode cX6_cellsInTheEnd 43 = .ok (.iload 5, 2) := by decide +kernel
set_option maxRecDepth 20000 in
theorem dX6_cellsInTheEnd_45 : decode cX6_cellsInTheEnd 45 = .ok (.ifCond .lt 65, 3) := by decide +kernel
set_option maxRecDepth 20000 in
theorem dX6_cellsInTheEnd_48 : decode cX6_cellsInTheEnd 48 = .ok (.aload_n 0, 1) := by decide +kernel
set_option maxRecDepth 20000 in
theorem dX6_cellsInTheEnd_49 : decode cX6_cellsInTheEnd 49 = .ok (.getfield 9, 3) := by decide +kernel
set_option maxRecDepth 20000 in
theorem dX6_cellsInTheEnd_52 : decode cX6_cellsInTheEnd 52 = .ok (.iconst 0, 1) := by decide +kernel
set_option maxRecDepth 20000 in
theorem dX6_cellsInTheEnd_53 : decode cX6_cellsInTheEnd 53 = .ok (.iaload, 1) := by decide +kernel
set_option maxRecDepth 20000 in
theorem dX6_cellsInTheEnd_54 : decode cX6_cellsInTheEnd 54 = .ok (.istore 6, 2) := by decide +kernel
set_option maxRecDepth 20000 in
theorem dX6_cellsInTheEnd_56 : decode cX6_cellsInTheEnd 56 = .ok (.iconst 0, 1) := by decide +kernel
set_option maxRecDepth 20000 in
theorem dX6_cellsInTheEnd_57 : decode cX6_cellsInTheEnd 57 = .ok (.istore 7, 2) := by decide +kernel
set_option maxRecDepth 20000 in
theorem dX6_cellsInTheEnd_59 : decode cX6_cellsInTheEnd 59 = .ok (.iload 7, 2) := by decide +kernel
set_option maxRecDepth 20000 in
theorem dX6_cellsInTheEnd_61 : decode cX6_cellsInTheEnd 61 = .ok (.iload 4, 2) := by decide +kernel
set_option maxRecDepth 20000 in
theorem dX6_cellsInTheEnd_63 : decode cX6_cellsInTheEnd 63 = .ok (.if_icmp .ge 41, 3) := by decide +kernel
set_option maxRecDepth 20000 in
theorem dX6_cellsInTheEnd_66 : decode cX6_cellsInTheEnd 66 = .ok (.aload_n 0, 1) := by decide +kernel
set_option maxRecDepth 20000 in
theorem dX6_cellsInTheEnd_67 : decode cX6_cellsInTheEnd 67 = .ok (.getfield 9, 3) := by decide +kernel
set_option maxRecDepth 20000 in
theorem dX6_cellsInTheEnd_70 : decode cX6_cellsInTheEnd 70 = .ok (.iload 7, 2) := by decide +kernel
set_option maxRecDepth 20000 in
theorem dX6_cellsInTheEnd_72 : decode cX6_cellsInTheEnd 72 = .ok (.aload_n 0, 1) := by decide +kernel
set_option maxRecDepth 20000 in
theorem dX6_cellsInTheEnd_73 : decode cX6_cellsInTheEnd 73 = .ok (.aload_n 1, 1) := by decide +kernel
set_option maxRecDepth 20000 in
theorem dX6_cellsInTheEnd_74 : decode cX6_cellsInTheEnd 74 = .ok (.getfield 15, 3) := by decide +kernel
set_option maxRecDepth 20000 in
theorem dX6_cellsInTheEnd_77 : decode cX6_cellsInTheEnd 77 = .ok (.iload_n 2, 1) := by decide +kernel
set_option maxRecDepth 20000 in
theorem dX6_cellsInTheEnd_78 : decode cX6_cellsInTheEnd 78 = .ok (.iload 7, 2) := by decide +kernel
set_option maxRecDepth 20000 in
theorem dX6_cellsInTheEnd_80 : decode cX6_cellsInTheEnd 80 = .ok (.iload 5, 2) := by decide +kernel
set_option maxRecDepth 20000 in
theorem dX6_cellsInTheEnd_82 : decode cX6_cellsInTheEnd 82 = .ok (.iconst 2, 1) := by decide +kernel
set_option maxRecDepth 20000 in
theorem dX6_cellsInTheEnd_83 : decode cX6_cellsInTheEnd 83 = .ok (.irem, 1) := by decide +kernel
set_option maxRecDepth 20000 in
theorem dX6_cellsInTheEnd_84 : decode cX6_cellsInTheEnd 84 = .ok (.ifCond .ne 7, 3) := by decide +kernel
set_option maxRecDepth 20000 in
theorem dX6_cellsInTheEnd_87 : decode cX6_cellsInTheEnd 87 = .ok (.iconst 1, 1) := by decide +kernel
set_option maxRecDepth 20000 in
theorem dX6_cellsInTheEnd_88 : decode cX6_cellsInTheEnd 88 = .ok (.goto 4, 3) := by decide +kernel
set_option maxRecDepth 20000 in
theorem dX6_cellsInTheEnd_91 : decode cX6_cellsInTheEnd 91 = .ok (.iconst 0, 1) := by decide +kernel
set_option maxRecDepth 20000 in
theorem dX6_cellsInTheEnd_92 : decode cX6_cellsInTheEnd 92 = .ok (.iload 6, 2) := by decide +kernel
set_option maxRecDepth 20000 in
theorem dX6_cellsInTheEnd_94 : decode cX6_cellsInTheEnd 94 = .ok (.invokevirtual 25, 3) := by decide +kernel
set_option maxRecDepth 20000 in
theorem dX6_cellsInTheEnd_97 : decode cX6_cellsInTheEnd 97 = .ok (.iastore, 1) := by decide +kernel
set_option maxRecDepth 20000 in
theorem dX6_cellsInTheEnd_98 : decode cX6_cellsInTheEnd 98 = .ok (.iinc 7 1, 3) := by decide +kernel
set_option maxRecDepth 20000 in
theorem dX6_cellsInTheEnd_101 : decode cX6_cellsInTheEnd 101 = .ok (.goto (-42), 3) := by decide +kernel
set_option maxRecDepth 20000 in
theorem dX6_cellsInTheEnd_104 : decode cX6_cellsInTheEnd 104 = .ok (.iinc 5 (-1), 3) := by decide +kernel
set_option maxRecDepth 20000 in
theorem dX6_cellsInTheEnd_107 : decode cX6_cellsInTheEnd 107 = .ok (.goto (-64), 3) := by decide +kernel
set_option maxRecDepth 20000 in
theorem dX6_cellsInTheEnd_110 : decode cX6_cellsInTheEnd 110 = .ok (.aload_n 0, 1) := by decide +kernel
set_option maxRecDepth 20000 in
theorem dX6_cellsInTheEnd_111 : decode cX6_cellsInTheEnd 111 = .ok (.getfield 9, 3) := by decide +kernel
set_option maxRecDepth 20000 in
theorem dX6_cellsInTheEnd_114 : decode cX6_cellsInTheEnd 114 = .ok (.aload_n 1, 1) := by decide +kernel
set_option maxRecDepth 20000 in
theorem dX6_cellsInTheEnd_115 : decode cX6_cellsInTheEnd 115 = .ok (.iload_n 2, 1) := by decide +kernel
set_option maxRecDepth 20000 in
theorem dX6_cellsInTheEnd_116 : decode cX6_cellsInTheEnd 116 = .ok (.invokevirtual 29, 3) := by decide +kernel
set_option maxRecDepth 20000 in
theorem dX6_cellsInTheEnd_119 : decode cX6_cellsInTheEnd 119 = .ok (.iaload, 1) := by decide +kernel
set_option maxRecDepth 20000 in
theorem dX6_cellsInTheEnd_120 : decode cX6_cellsInTheEnd 120 = .ok (.ireturn, 1) := by decide +kernel
set_option maxRecDepth 20000 in
theorem dX6_afterTurn_0 : decode cX6_afterTurn 0 = .ok (.iload 5, 2) := by decide +kernel
set_option maxRecDepth 20000 in
theorem dX6_afterTurn_2 : decode cX6_afterTurn 2 = .ok (.istore 6, 2) := by decide +kernel
set_option maxRecDepth 20000 in
theorem dX6_afterTurn_4 : decode cX6_afterTurn 4 = .ok (.iconst 0, 1) := by decide +kernel
set_option maxRecDepth 20000 in
theorem dX6_afterTurn_5 : decode cX6_afterTurn 5 = .ok (.istore 7, 2) := by decide +kernel
set_option maxRecDepth 20000 in
theorem dX6_afterTurn_7 : decode cX6_afterTurn 7 = .ok (.iload 7, 2) := by decide +kernel
set_option maxRecDepth 20000 in
theorem dX6_afterTurn_9 : decode cX6_afterTurn 9 = .ok (.iload_n 1, 1) := by decide +kernel
set_option maxRecDepth 20000 in
theorem dX6_afterTurn_10 : decode cX6_afterTurn 10 = .ok (.if_icmp .ge 52, 3) := by decide +kernel
set_option maxRecDepth 20000 in
theorem dX6_afterTurn_13 : decode cX6_afterTurn 13 = .ok (.iload 7, 2) := by decide +kernel
set_option maxRecDepth 20000 in
theorem dX6_afterTurn_15 : decode cX6_afterTurn 15 = .ok (.iload_n 2, 1) := by decide +kernel
set_option maxRecDepth 20000 in
theorem dX6_afterTurn_16 : decode cX6_afterTurn 16 = .ok (.if_icmp .eq 40, 3) := by decide +kernel
set_option maxRecDepth 20000 in
theorem dX6_afterTurn_19 : decode cX6_afterTurn 19 = .ok (.aload_n 0, 1) := by decide +kernel
set_option maxRecDepth 20000 in
theorem dX6_afterTurn_20 : decode cX6_afterTurn 20 = .ok (.getfield 9, 3) := by decide +kernel
set_option maxRecDepth 20000 in
theorem dX6_afterTurn_23 : decode cX6_afterTurn 23 = .ok (.iload_n 3, 1) := by decide +kernel
set_option maxRecDepth 20000 in
theorem dX6_afterTurn_24 : decode cX6_afterTurn 24 = .ok (.iconst 1, 1) := by decide +kernel
set_option maxRecDepth 20000 in
theorem dX6_afterTurn_25 : decode cX6_afterTurn 25 = .ok (.iload 7, 2) := by decide +kernel
set_option maxRecDepth 20000 in
theorem dX6_afterTurn_27 : decode cX6_afterTurn 27 = .ok (.ishl, 1) := by decide +kernel
set_option maxRecDepth 20000 in
theorem dX6_afterTurn_28 : decode cX6_afterTurn 28 = .ok (.ior, 1) := by decide +kernel
set_option maxRecDepth 20000 in
theorem dX6_afterTurn_29 : decode cX6_afterTurn 29 = .ok (.iaload, 1) := by decide +kernel
set_option maxRecDepth 20000 in
theorem dX6_afterTurn_30 : decode cX6_afterTurn 30 = .ok (.istore 8, 2) := by decide +kernel
set_option maxRecDepth 20000 in
theorem dX6_afterTurn_32 : decode cX6_afterTurn 32 = .ok (.iload 4, 2) := by decide +kernel
set_option maxRecDepth 20000 in
theorem dX6_afterTurn_34 : decode cX6_afterTurn 34 = .ok (.ifCond .eq 13, 3) := by decide +kernel
set_option maxRecDepth 20000 in
theorem dX6_afterTurn_37 : decode cX6_afterTurn 37 = .ok (.iload 6, 2) := by decide +kernel
set_option maxRecDepth 20000 in
theorem dX6_afterTurn_39 : decode cX6_afterTurn 39 = .ok (.iload 8, 2) := by decide +kernel
set_option maxRecDepth 20000 in
theorem dX6_afterTurn_41 : decode cX6_afterTurn 41 = .ok (.invokestatic 33, 3) := by decide +kernel
set_option maxRecDepth 20000 in
theorem dX6_afterTurn_44 : decode cX6_afterTurn 44 = .ok (.goto 10, 3) := by decide +kernel
set_option maxRecDepth 20000 in
theorem dX6_afterTurn_47 : decode cX6_afterTurn 47 = .ok (.iload 6, 2) := by decide +kernel
set_option maxRecDepth 20000 in
theorem dX6_afterTurn_49 : decode cX6_afterTurn 49 = .ok (.iload 8, 2) := by decide +kernel
set_option maxRecDepth 20000 in
theorem dX6_afterTurn_51 : decode cX6_afterTurn 51 = .ok (.invokestatic 38, 3) := by decide +kernel
set_option maxRecDepth 20000 in
theorem dX6_afterTurn_54 : decode cX6_afterTurn 54 = .ok (.istore 6, 2) := by decide +kernel
set_option maxRecDepth 20000 in
theorem dX6_afterTurn_56 : decode cX6_afterTurn 56 = .ok (.iinc 7 1, 3) := by decide +kernel
set_option maxRecDepth 20000 in
theorem dX6_afterTurn_59 : decode cX6_afterTurn 59 = .ok (.goto (-52), 3) := by decide +kernel
set_option maxRecDepth 20000 in
theorem dX6_afterTurn_62 : decode cX6_afterTurn 62 = .ok (.iload 6, 2) := by decide +kernel
set_option maxRecDepth 20000 in
theorem dX6_afterTurn_64 : decode cX6_afterTurn 64 = .ok (.ireturn, 1) := by decide +kernel
set_option maxRecDepth 20000 in
theorem dJ6_bitCount_0f7a4_0 : decode cJ6_bitCount_0f7a4 0 = .ok (.iload_n 0, 1) := by decide +kernel
set_option maxRecDepth 20000 in
theorem dJ6_bitCount_0f7a4_1 : decode cJ6_bitCount_0f7a4 1 = .ok (.iload_n 0, 1) := by decide +kernel
set_option maxRecDepth 20000 in
theorem dJ6_bitCount_0f7a4_2 : decode cJ6_bitCount_0f7a4 2 = .ok (.iconst 1, 1) := by decide +kernel
set_option maxRecDepth 20000 in
theorem dJ6_bitCount_0f7a4_3 : decode cJ6_bitCount_0f7a4 3 = .ok (.iushr, 1) := by decide +kernel
set_option maxRecDepth 20000 in
theorem dJ6_bitCount_0f7a4_4 : decode cJ6_bitCount_0f7a4 4 = .ok (.ldc_w 265, 3) := by decide +kernel
set_option maxRecDepth 20000 in
theorem dJ6_bitCount_0f7a4_7 : decode cJ6_bitCount_0f7a4 7 = .ok (.iand, 1) := by decide +kernel
set_option maxRecDepth 20000 in
theorem dJ6_bitCount_0f7a4_8 : decode cJ6_bitCount_0f7a4 8 = .ok (.isub, 1) := by decide +kernel
set_option maxRecDepth 20000 in
theorem dJ6_bitCount_0f7a4_9 : decode cJ6_bitCount_0f7a4 9 = .ok (.istore_n 0, 1) := by decide +kernel
set_option maxRecDepth 20000 in
theorem dJ6_bitCount_0f7a4_10 : decode cJ6_bitCount_0f7a4 10 = .ok (.iload_n 0, 1) := by decide +kernel
set_option maxRecDepth 20000 in
theorem dJ6_bitCount_0f7a4_11 : decode cJ6_bitCount_0f7a4 11 = .ok (.ldc_w 266, 3) := by decide +kernel
set_option maxRecDepth 20000 in
theorem dJ6_bitCount_0f7a4_14 : decode cJ6_bitCount_0f7a4 14 = .ok (.iand, 1) := by decide +kernel
set_option maxRecDepth 20000 in
theorem dJ6_bitCount_0f7a4_15 : decode cJ6_bitCount_0f7a4 15 = .ok (.iload_n 0, 1) := by decide +kernel
set_option maxRecDepth 20000 in
theorem dJ6_bitCount_0f7a4_16 : decode cJ6_bitCount_0f7a4 16 = .ok (.iconst 2, 1) := by decide +kernel
set_option maxRecDepth 20000 in
theorem dJ6_bitCount_0f7a4_17 : decode cJ6_bitCount_0f7a4 17 = .ok (.iushr, 1) := by decide +kernel
set_option maxRecDepth 20000 in
theorem dJ6_bitCount_0f7a4_18 : decode cJ6_bitCount_0f7a4 18 = .ok (.ldc_w 266, 3) := by decide +kernel
set_option maxRecDepth 20000 in
theorem dJ6_bitCount_0f7a4_21 : decode cJ6_bitCount_0f7a4 21 = .ok (.iand, 1) := by decide +kernel
set_option maxRecDepth 20000 in
theorem dJ6_bitCount_0f7a4_22 : decode cJ6_bitCount_0f7a4 22 = .ok (.iadd, 1) := by decide +kernel
set_option maxRecDepth 20000 in
theorem dJ6_bitCount_0f7a4_23 : decode cJ6_bitCount_0f7a4 23 = .ok (.istore_n 0, 1) := by decide +kernel
set_option maxRecDepth 20000 in
theorem dJ6_bitCount_0f7a4_24 : decode cJ6_bitCount_0f7a4 24 = .ok (.iload_n 0, 1) := by decide +kernel
set_option maxRecDepth 20000 in
theorem dJ6_bitCount_0f7a4_25 : decode cJ6_bitCount_0f7a4 25 = .ok (.iload_n 0, 1) := by decide +kernel
set_option maxRecDepth 20000 in
theorem dJ6_bitCount_0f7a4_26 : decode cJ6_bitCount_0f7a4 26 = .ok (.iconst 4, 1) := by decide +kernel
set_option maxRecDepth 20000 in
theorem dJ6_bitCount_0f7a4_27 : decode cJ6_bitCount_0f7a4 27 = .ok (.iushr, 1) := by decide +kernel
set_option maxRecDepth 20000 in
theorem dJ6_bitCount_0f7a4_28 : decode cJ6_bitCount_0f7a4 28 = .ok (.iadd, 1) := by decide +kernel
set_option maxRecDepth 20000 in
theorem dJ6_bitCount_0f7a4_29 : decode cJ6_bitCount_0f7a4 29 = .ok (.ldc_w 267, 3) := by decide +kernel
set_option maxRecDepth 20000 in
theorem dJ6_bitCount_0f7a4_32 : decode cJ6_bitCount_0f7a4 32 = .ok (.iand, 1) := by decide +kernel
set_option maxRecDepth 20000 in
theorem dJ6_bitCount_0f7a4_33 : decode cJ6_bitCount_0f7a4 33 = .ok (.istore_n 0, 1) := by decide +kernel
set_option maxRecDepth 20000 in
theorem dJ6_bitCount_0f7a4_34 : decode cJ6_bitCount_0f7a4 34 = .ok (.iload_n 0, 1) := by decide +kernel
set_option maxRecDepth 20000 in
theorem dJ6_bitCount_0f7a4_35 : decode cJ6_bitCount_0f7a4 35 = .ok (.iload_n 0, 1) := by decide +kernel
set_option maxRecDepth 20000 in
theorem dJ6_bitCount_0f7a4_36 : decode cJ6_bitCount_0f7a4 36 = .ok (.bipush 8, 2) := by decide +kernel
set_option maxRecDepth 20000 in
theorem dJ6_bitCount_0f7a4_38 : decode cJ6_bitCount_0f7a4 38 = .ok (.iushr, 1) := by decide +kernel
set_option maxRecDepth 20000 in
theorem dJ6_bitCount_0f7a4_39 : decode cJ6_bitCount_0f7a4 39 = .ok (.iadd, 1) := by decide +kernel
set_option maxRecDepth 20000 in
theorem dJ6_bitCount_0f7a4_40 : decode cJ6_bitCount_0f7a4 40 = .ok (.istore_n 0, 1) := by decide +kernel
set_option maxRecDepth 20000 in
theorem dJ6_bitCount_0f7a4_41 : decode cJ6_bitCount_0f7a4 41 = .ok (.iload_n 0, 1) := by decide +kernel
set_option maxRecDepth 20000 in
theorem dJ6_bitCount_0f7a4_42 : decode cJ6_bitCount_0f7a4 42 = .ok (.iload_n 0, 1) := by decide +kernel
set_option maxRecDepth 20000 in
theorem dJ6_bitCount_0f7a4_43 : decode cJ6_bitCount_0f7a4 43 = .ok (.bipush 16, 2) := by decide +kernel
set_option maxRecDepth 20000 in
theorem dJ6_bitCount_0f7a4_45 : decode cJ6_bitCount_0f7a4 45 = .ok (.iushr, 1) := by decide +kernel
set_option maxRecDepth 20000 in
theorem dJ6_bitCount_0f7a4_46 : decode cJ6_bitCount_0f7a4 46 = .ok (.iadd, 1) := by decide +kernel
set_option maxRecDepth 20000 in
theorem dJ6_bitCount_0f7a4_47 : decode cJ6_bitCount_0f7a4 47 = .ok (.istore_n 0, 1) := by decide +kernel
set_option maxRecDepth 20000 in
theorem dJ6_bitCount_0f7a4_48 : decode cJ6_bitCount_0f7a4 48 = .ok (.iload_n 0, 1) := by decide +kernel
set_option maxRecDepth 20000 in
theorem dJ6_bitCount_0f7a4_49 : decode cJ6_bitCount_0f7a4 49 = .ok (.bipush 63, 2) := by decide +kernel
set_option maxRecDepth 20000 in
theorem dJ6_bitCount_0f7a4_51 : decode cJ6_bitCount_0f7a4 51 = .ok (.iand, 1) := by decide +kernel
set_option maxRecDepth 20000 in
theorem dJ6_bitCount_0f7a4_52 : decode cJ6_bitCount_0f7a4 52 = .ok (.ireturn, 1) := by decide +kernel
set_option maxRecDepth 20000 in
theorem dJ13_bitCount_95d88_0 : decode cJ13_bitCount_95d88 0 = .ok (.lload_n 0, 1) := by decide +kernel
set_option maxRecDepth 20000 in
theorem dJ13_bitCount_95d88_1 : decode cJ13_bitCount_95d88 1 = .ok (.lload_n 0, 1) := by decide +kernel
set_option maxRecDepth 20000 in
theorem dJ13_bitCount_95d88_2 : decode cJ13_bitCount_95d88 2 = .ok (.iconst 1, 1) := by decide +kernel
set_option maxRecDepth 20000 in
theorem dJ13_bitCount_95d88_3 : decode cJ13_bitCount_95d88 3 = .ok (.lushr, 1) := by decide +kernel
set_option maxRecDepth 20000 in
theorem dJ13_bitCount_95d88_4 : decode cJ13_bitCount_95d88 4 = .ok (.ldc2_w 314, 3) := by decide +kernel
set_option maxRecDepth 20000 in
theorem dJ13_bitCount_95d88_7 : decode cJ13_bitCount_95d88 7 = .ok (.land, 1) := by decide +kernel
set_option maxRecDepth 20000 in
theorem dJ13_bitCount_95d88_8 : decode cJ13_bitCount_95d88 8 = .ok (.lsub, 1) := by decide +kernel
set_option maxRecDepth 20000 in
theorem dJ13_bitCount_95d88_9 : decode cJ13_bitCount_95d88 9 = .ok (.lstore_n 0, 1) := by decide +kernel
set_option maxRecDepth 20000 in
theorem dJ13_bitCount_95d88_10 : decode cJ13_bitCount_95d88 10 = .ok (.lload_n 0, 1) := by decide +kernel
set_option maxRecDepth 20000 in
theorem dJ13_bitCount_95d88_11 : decode cJ13_bitCount_95d88 11 = .ok (.ldc2_w 316, 3) := by decide +kernel
set_option maxRecDepth 20000 in
theorem dJ13_bitCount_95d88_14 : decode cJ13_bitCount_95d88 14 = .ok (.land, 1) := by decide +kernel
set_option maxRecDepth 20000 in
theorem dJ13_bitCount_95d88_15 : decode cJ13_bitCount_95d88 15 = .ok (.lload_n 0, 1) := by decide +kernel
set_option maxRecDepth 20000 in
theorem dJ13_bitCount_95d88_16 : decode cJ13_bitCount_95d88 16 = .ok (.iconst 2, 1) := by decide +kernel
set_option maxRecDepth 20000 in
theorem dJ13_bitCount_95d88_17 : decode cJ13_bitCount_95d88 17 = .ok (.lushr, 1) := by decide +kernel
set_option maxRecDepth 20000 in
theorem dJ13_bitCount_95d88_18 : decode cJ13_bitCount_95d88 18 = .ok (.ldc2_w 316, 3) := by decide +kernel
set_option maxRecDepth 20000 in
theorem dJ13_bitCount_95d88_21 : decode cJ13_bitCount_95d88 21 = .ok (.land, 1) := by decide +kernel
set_option maxRecDepth 20000 in
theorem dJ13_bitCount_95d88_22 : decode cJ13_bitCount_95d88 22 = .ok (.ladd, 1) := by decide +kernel
set_option maxRecDepth 20000 in
theorem dJ13_bitCount_95d88_23 : decode cJ13_bitCount_95d88 23 = .ok (.lstore_n 0, 1) := by decide +kernel
set_option maxRecDepth 20000 in
theorem dJ13_bitCount_95d88_24 : decode cJ13_bitCount_95d88 24 = .ok (.lload_n 0, 1) := by decide +kernel
set_option maxRecDepth 20000 in
theorem dJ13_bitCount_95d88_25 : decode cJ13_bitCount_95d88 25 = .ok (.lload_n 0, 1) := by decide +kernel
set_option maxRecDepth 20000 in
theorem dJ13_bitCount_95d88_26 : decode cJ13_bitCount_95d88 26 = .ok (.iconst 4, 1) := by decide +kernel
set_option maxRecDepth 20000 in
theorem dJ13_bitCount_95d88_27 : decode cJ13_bitCount_95d88 27 = .ok (.lushr, 1) := by decide +kernel
set_option maxRecDepth 20000 in
theorem dJ13_bitCount_95d88_28 : decode cJ13_bitCount_95d88 28 = .ok (.ladd, 1) := by decide +kernel
set_option maxRecDepth 20000 in
theorem dJ13_bitCount_95d88_29 : decode cJ13_bitCount_95d88 29 = .ok (.ldc2_w 318, 3) := by decide +kernel
set_option maxRecDepth 20000 in
theorem dJ13_bitCount_95d88_32 : decode cJ13_bitCount_95d88 32 = .ok (.land, 1) := by decide +kernel
set_option maxRecDepth 20000 in
theorem dJ13_bitCount_95d88_33 : decode cJ13_bitCount_95d88 33 = .ok (.lstore_n 0, 1) := by decide +kernel
set_option maxRecDepth 20000 in
theorem dJ13_bitCount_95d88_34 : decode cJ13_bitCount_95d88 34 = .ok (.lload_n 0, 1) := by decide +kernel
set_option maxRecDepth 20000 in
theorem dJ13_bitCount_95d88_35 : decode cJ13_bitCount_95d88 35 = .ok (.lload_n 0, 1) := by decide +kernel
set_option maxRecDepth 20000 in
theorem dJ13_bitCount_95d88_36 : decode cJ13_bitCount_95d88 36 = .ok (.bipush 8, 2) := by decide +kernel
set_option maxRecDepth 20000 in
theorem dJ13_bitCount_95d88_38 : decode cJ13_bitCount_95d88 38 = .ok (.lushr, 1) := by decide +kernel
set_option maxRecDepth 20000 in
theorem dJ13_bitCount_95d88_39 : decode cJ13_bitCount_95d88 39 = .ok (.ladd, 1) := by decide +kernel
set_option maxRecDepth 20000 in
theorem dJ13_bitCount_95d88_40 : decode cJ13_bitCount_95d88 40 = .ok (.lstore_n 0, 1) := by decide +kernel
set_option maxRecDepth 20000 in
theorem dJ13_bitCount_95d88_41 : decode cJ13_bitCount_95d88 41 = .ok (.lload_n 0, 1) := by decide +kernel
set_option maxRecDepth 20000 in
theorem dJ13_bitCount_95d88_42 : decode cJ13_bitCount_95d88 42 = .ok (.lload_n 0, 1) := by decide +kernel
set_option maxRecDepth 20000 in
theorem dJ13_bitCount_95d88_43 : decode cJ13_bitCount_95d88 43 = .ok (.bipush 16, 2) := by decide +kernel
set_option maxRecDepth 20000 in
theorem dJ13_bitCount_95d88_45 : decode cJ13_bitCount_95d88 45 = .ok (.lushr, 1) := by decide +kernel
set_option maxRecDepth 20000 in
theorem dJ13_bitCount_95d88_46 : decode cJ13_bitCount_95d88 46 = .ok (.ladd, 1) := by decide +kernel
set_option maxRecDepth 20000 in
theorem dJ13_bitCount_95d88_47 : decode cJ13_bitCount_95d88 47 = .ok (.lstore_n 0, 1) := by decide +kernel
set_option maxRecDepth 20000 in
theorem dJ13_bitCount_95d88_48 : decode cJ13_bitCount_95d88 48 = .ok (.lload_n 0, 1) := by decide +kernel
set_option maxRecDepth 20000 in
theorem dJ13_bitCount_95d88_49 : decode cJ13_bitCount_95d88 49 = .ok (.lload_n 0, 1) := by decide +kernel
set_option maxRecDepth 20000 in
theorem dJ13_bitCount_95d88_50 : decode cJ13_bitCount_95d88 50 = .ok (.bipush 32, 2) := by decide +kernel
set_option maxRecDepth 20000 in
theorem dJ13_bitCount_95d88_52 : decode cJ13_bitCount_95d88 52 = .ok (.lushr, 1) := by decide +kernel
set_option maxRecDepth 20000 in
theorem dJ13_bitCount_95d88_53 : decode cJ13_bitCount_95d88 53 = .ok (.ladd, 1) := by decide +kernel
set_option maxRecDepth 20000 in
theorem dJ13_bitCount_95d88_54 : decode cJ13_bitCount_95d88 54 = .ok (.lstore_n 0, 1) := by decide +kernel
set_option maxRecDepth 20000 in
theorem dJ13_bitCount_95d88_55 : decode cJ13_bitCount_95d88 55 = .ok (.lload_n 0, 1) := by decide +kernel
set_option maxRecDepth 20000 in
theorem dJ13_bitCount_95d88_56 : decode cJ13_bitCount_95d88 56 = .ok (.l2i, 1) := by decide +kernel
set_option maxRecDepth 20000 in
theorem dJ13_bitCount_95d88_57 : decode cJ13_bitCount_95d88 57 = .ok (.bipush 127, 2) := by decide +kernel
set_option maxRecDepth 20000 in
theorem dJ13_bitCount_95d88_59 : decode cJ13_bitCount_95d88 59 = .ok (.iand, 1) := by decide +kernel
set_option maxRecDepth 20000 in
theorem dJ13_bitCount_95d88_60 : decode cJ13_bitCount_95d88 60 = .ok (.ireturn, 1) := by decide +kernel
set_option maxRecDepth 20000 in
theorem dJ7_fill_53178_0 : decode cJ7_fill_53178 0 = .ok (.iconst 0, 1) := by decide +kernel
set_option maxRecDepth 20000 in
theorem dJ7_fill_53178_1 : decode cJ7_fill_53178 1 = .ok (.istore_n 2, 1) := by decide +kernel
set_option maxRecDepth 20000 in
theorem dJ7_fill_53178_2 : decode cJ7_fill_53178 2 = .ok (.aload_n 0, 1) := by decide +kernel
set_option maxRecDepth 20000 in
theorem dJ7_fill_53178_3 : decode cJ7_fill_53178 3 = .ok (.arraylength, 1) := by decide +kernel
set_option maxRecDepth 20000 in
theorem dJ7_fill_53178_4 : decode cJ7_fill_53178 4 = .ok (.istore_n 3, 1) := by decide +kernel
set_option maxRecDepth 20000 in
theorem dJ7_fill_53178_5 : decode cJ7_fill_53178 5 = .ok (.iload_n 2, 1) := by decide +kernel
set_option maxRecDepth 20000 in
theorem dJ7_fill_53178_6 : decode cJ7_fill_53178 6 = .ok (.iload_n 3, 1) := by decide +kernel
set_option maxRecDepth 20000 in
theorem dJ7_fill_53178_7 : decode cJ7_fill_53178 7 = .ok (.if_icmp .ge 13, 3) := by decide +kernel
set_option maxRecDepth 20000 in
theorem dJ7_fill_53178_10 : decode cJ7_fill_53178 10 = .ok (.aload_n 0, 1) := by decide +kernel
set_option maxRecDepth 20000 in
theorem dJ7_fill_53178_11 : decode cJ7_fill_53178 11 = .ok (.iload_n 2, 1) := by decide +kernel
set_option maxRecDepth 20000 in
theorem dJ7_fill_53178_12 : decode cJ7_fill_53178 12 = .ok (.iload_n 1, 1) := by decide +kernel
set_option maxRecDepth 20000 in
theorem dJ7_fill_53178_13 : decode cJ7_fill_53178 13 = .ok (.iastore, 1) := by decide +kernel
set_option maxRecDepth 20000 in
theorem dJ7_fill_53178_14 : decode cJ7_fill_53178 14 = .ok (.iinc 2 1, 3) := by decide +kernel
set_option maxRecDepth 20000 in
theorem dJ7_fill_53178_17 : decode cJ7_fill_53178 17 = .ok (.goto (-12), 3) := by decide +kernel
set_option maxRecDepth 20000 in
theorem dJ7_fill_53178_20 : decode cJ7_fill_53178 20 = .ok (.return_, 1) := by decide +kernel
set_option maxRecDepth 20000 in
theorem dJ7_fill_031fb_0 : decode cJ7_fill_031fb 0 = .ok (.iconst 0, 1) := by decide +kernel
set_option maxRecDepth 20000 in
theorem dJ7_fill_031fb_1 : decode cJ7_fill_031fb 1 = .ok (.istore_n 2, 1) := by decide +kernel
set_option maxRecDepth 20000 in
theorem dJ7_fill_031fb_2 : decode cJ7_fill_031fb 2 = .ok (.aload_n 0, 1) := by decide +kernel
set_option maxRecDepth 20000 in
theorem dJ7_fill_031fb_3 : decode cJ7_fill_031fb 3 = .ok (.arraylength, 1) := by decide +kernel
set_option maxRecDepth 20000 in
theorem dJ7_fill_031fb_4 : decode cJ7_fill_031fb 4 = .ok (.istore_n 3, 1) := by decide +kernel
set_option maxRecDepth 20000 in
theorem dJ7_fill_031fb_5 : decode cJ7_fill_031fb 5 = .ok (.iload_n 2, 1) := by decide +kernel
set_option maxRecDepth 20000 in
theorem dJ7_fill_031fb_6 : decode cJ7_fill_031fb 6 = .ok (.iload_n 3, 1) := by decide +kernel
set_option maxRecDepth 20000 in
theorem dJ7_fill_031fb_7 : decode cJ7_fill_031fb 7 = .ok (.if_icmp .ge 13, 3) := by decide +kernel
set_option maxRecDepth 20000 in
theorem dJ7_fill_031fb_10 : decode cJ7_fill_031fb 10 = .ok (.aload_n 0, 1) := by decide +kernel
set_option maxRecDepth 20000 in
theorem dJ7_fill_031fb_11 : decode cJ7_fill_031fb 11 = .ok (.iload_n 2, 1) := by decide +kernel
set_option maxRecDepth 20000 in
theorem dJ7_fill_031fb_12 : decode cJ7_fill_031fb 12 = .ok (.iload_n 1, 1) := by decide +kernel
set_option maxRecDepth 20000 in
theorem dJ7_fill_031fb_13 : decode cJ7_fill_031fb 13 = .ok (.bastore, 1) := by decide +kernel
set_option maxRecDepth 20000 in
theorem dJ7_fill_031fb_14 : decode cJ7_fill_031fb 14 = .ok (.iinc 2 1, 3) := by decide +kernel
set_option maxRecDepth 20000 in
theorem dJ7_fill_031fb_17 : decode cJ7_fill_031fb 17 = .ok (.goto (-12), 3) := by decide +kernel
set_option maxRecDepth 20000 in
theorem dJ7_fill_031fb_20 : decode cJ7_fill_031fb 20 = .ok (.return_, 1) := by decide +kernel
set_option maxRecDepth 20000 in
theorem dJ9_max_7cf53_0 : decode cJ9_max_7cf53 0 = .ok (.iload_n 0, 1) := by decide +kernel
set_option maxRecDepth 20000 in
theorem dJ9_max_7cf53_1 : decode cJ9_max_7cf53 1 = .ok (.iload_n 1, 1) := by decide +kernel
set_option maxRecDepth 20000 in
theorem dJ9_max_7cf53_2 : decode cJ9_max_7cf53 2 = .ok (.if_icmp .lt 7, 3) := by decide +kernel
set_option maxRecDepth 20000 in
theorem dJ9_max_7cf53_5 : decode cJ9_max_7cf53 5 = .ok (.iload_n 0, 1) := by decide +kernel
set_option maxRecDepth 20000 in
theorem dJ9_max_7cf53_6 : decode cJ9_max_7cf53 6 = .ok (.goto 4, 3) := by decide +kernel
set_option maxRecDepth 20000 in
theorem dJ9_max_7cf53_9 : decode cJ9_max_7cf53 9 = .ok (.iload_n 1, 1) := by decide +kernel
set_option maxRecDepth 20000 in
theorem dJ9_max_7cf53_10 : decode cJ9_max_7cf53 10 = .ok (.ireturn, 1) := by decide +kernel
set_option maxRecDepth 20000 in
theorem dJ9_min_7cf53_0 : decode cJ9_min_7cf53 0 = .ok (.iload_n 0, 1) := by decide +kernel
set_option maxRecDepth 20000 in
theorem dJ9_min_7cf53_1 : decode cJ9_min_7cf53 1 = .ok (.iload_n 1, 1) := by decide +kernel
set_option maxRecDepth 20000 in
theorem dJ9_min_7cf53_2 : decode cJ9_min_7cf53 2 = .ok (.if_icmp .gt 7, 3) := by decide +kernel
set_option maxRecDepth 20000 in
theorem dJ9_min_7cf53_5 : decode cJ9_min_7cf53 5 = .ok (.iload_n 0, 1) := by decide +kernel
set_option maxRecDepth 20000 in
theorem dJ9_min_7cf53_6 : decode cJ9_min_7cf53 6 = .ok (.goto 4, 3) := by decide +kernel
set_option maxRecDepth 20000 in
theorem dJ9_min_7cf53_9 : decode cJ9_min_7cf53 9 = .ok (.iload_n 1, 1) := by decide +kernel
set_option maxRecDepth 20000 in
theorem dJ9_min_7cf53_10 : decode cJ9_min_7cf53 10 = .ok (.ireturn, 1) := by decide +kernel
