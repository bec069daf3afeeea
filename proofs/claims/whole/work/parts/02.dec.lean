theorem dX0_init_0 : decode cX0_init 0 = .ok (.aload_n 0, 1) := by decide +kernel
theorem dX0_init_1 : decode cX0_init 1 = .ok (.invokespecial 3, 3) := by decide +kernel
theorem dX0_init_4 : decode cX0_init 4 = .ok (.aload_n 0, 1) := by decide +kernel
theorem dX0_init_5 : decode cX0_init 5 = .ok (.iconst 0, 1) := by decide +kernel
theorem dX0_init_6 : decode cX0_init 6 = .ok (.putfield 9, 3) := by decide +kernel
theorem dX0_init_9 : decode cX0_init 9 = .ok (.aload_n 0, 1) := by decide +kernel
theorem dX0_init_10 : decode cX0_init 10 = .ok (.bipush 11, 2) := by decide +kernel
theorem dX0_init_12 : decode cX0_init 12 = .ok (.newarray .int, 2) := by decide +kernel
theorem dX0_init_14 : decode cX0_init 14 = .ok (.putfield 15, 3) := by decide +kernel
theorem dX0_init_17 : decode cX0_init 17 = .ok (.aload_n 0, 1) := by decide +kernel
theorem dX0_init_18 : decode cX0_init 18 = .ok (.bipush 11, 2) := by decide +kernel
theorem dX0_init_20 : decode cX0_init 20 = .ok (.newarray .int, 2) := by decide +kernel
theorem dX0_init_22 : decode cX0_init 22 = .ok (.putfield 19, 3) := by decide +kernel
theorem dX0_init_25 : decode cX0_init 25 = .ok (.aload_n 0, 1) := by decide +kernel
theorem dX0_init_26 : decode cX0_init 26 = .ok (.bipush 11, 2) := by decide +kernel
theorem dX0_init_28 : decode cX0_init 28 = .ok (.newarray .int, 2) := by decide +kernel
theorem dX0_init_30 : decode cX0_init 30 = .ok (.putfield 22, 3) := by decide +kernel
theorem dX0_init_33 : decode cX0_init 33 = .ok (.aload_n 0, 1) := by decide +kernel
theorem dX0_init_34 : decode cX0_init 34 = .ok (.bipush 11, 2) := by decide +kernel
theorem dX0_init_36 : decode cX0_init 36 = .ok (.newarray .int, 2) := by decide +kernel
theorem dX0_init_38 : decode cX0_init 38 = .ok (.putfield 25, 3) := by decide +kernel
theorem dX0_init_41 : decode cX0_init 41 = .ok (.aload_n 0, 1) := by decide +kernel
theorem dX0_init_42 : decode cX0_init 42 = .ok (.iconst 0, 1) := by decide +kernel
theorem dX0_init_43 : decode cX0_init 43 = .ok (.putfield 28, 3) := by decide +kernel
theorem dX0_init_46 : decode cX0_init 46 = .ok (.aload_n 0, 1) := by decide +kernel
theorem dX0_init_47 : decode cX0_init 47 = .ok (.bipush 16, 2) := by decide +kernel
theorem dX0_init_49 : decode cX0_init 49 = .ok (.newarray .int, 2) := by decide +kernel
theorem dX0_init_51 : decode cX0_init 51 = .ok (.putfield 31, 3) := by decide +kernel
theorem dX0_init_54 : decode cX0_init 54 = .ok (.aload_n 0, 1) := by decide +kernel
theorem dX0_init_55 : decode cX0_init 55 = .ok (.bipush 16, 2) := by decide +kernel
theorem dX0_init_57 : decode cX0_init 57 = .ok (.newarray .int, 2) := by decide +kernel
theorem dX0_init_59 : decode cX0_init 59 = .ok (.putfield 34, 3) := by decide +kernel
theorem dX0_init_62 : decode cX0_init 62 = .ok (.aload_n 0, 1) := by decide +kernel
theorem dX0_init_63 : decode cX0_init 63 = .ok (.bipush 24, 2) := by decide +kernel
theorem dX0_init_65 : decode cX0_init 65 = .ok (.newarray .int, 2) := by decide +kernel
theorem dX0_init_67 : decode cX0_init 67 = .ok (.putfield 37, 3) := by decide +kernel
theorem dX0_init_70 : decode cX0_init 70 = .ok (.aload_n 0, 1) := by decide +kernel
theorem dX0_init_71 : decode cX0_init 71 = .ok (.bipush 40, 2) := by decide +kernel
theorem dX0_init_73 : decode cX0_init 73 = .ok (.putfield 40, 3) := by decide +kernel
theorem dX0_init_76 : decode cX0_init 76 = .ok (.aload_n 0, 1) := by decide +kernel
theorem dX0_init_77 : decode cX0_init 77 = .ok (.iconst 0, 1) := by decide +kernel
theorem dX0_init_78 : decode cX0_init 78 = .ok (.putfield 43, 3) := by decide +kernel
theorem dX0_init_81 : decode cX0_init 81 = .ok (.aload_n 0, 1) := by decide +kernel
theorem dX0_init_82 : decode cX0_init 82 = .ok (.bipush 8, 2) := by decide +kernel
theorem dX0_init_84 : decode cX0_init 84 = .ok (.newarray .int, 2) := by decide +kernel
theorem dX0_init_86 : decode cX0_init 86 = .ok (.putfield 46, 3) := by decide +kernel
theorem dX0_init_89 : decode cX0_init 89 = .ok (.aload_n 0, 1) := by decide +kernel
theorem dX0_init_90 : decode cX0_init 90 = .ok (.bipush 8, 2) := by decide +kernel
theorem dX0_init_92 : decode cX0_init 92 = .ok (.newarray .int, 2) := by decide +kernel
theorem dX0_init_94 : decode cX0_init 94 = .ok (.putfield 49, 3) := by decide +kernel
theorem dX0_init_97 : decode cX0_init 97 = .ok (.aload_n 0, 1) := by decide +kernel
theorem dX0_init_98 : decode cX0_init 98 = .ok (.iconst 0, 1) := by decide +kernel
theorem dX0_init_99 : decode cX0_init 99 = .ok (.putfield 52, 3) := by decide +kernel
theorem dX0_init_102 : decode cX0_init 102 = .ok (.aload_n 0, 1) := by decide +kernel
theorem dX0_init_103 : decode cX0_init 103 = .ok (.iconst (-1), 1) := by decide +kernel
theorem dX0_init_104 : decode cX0_init 104 = .ok (.putfield 55, 3) := by decide +kernel
theorem dX0_init_107 : decode cX0_init 107 = .ok (.return_, 1) := by decide +kernel
theorem dX0_takePlayers_0 : decode cX0_takePlayers 0 = .ok (.aload_n 0, 1) := by decide +kernel
theorem dX0_takePlayers_1 : decode cX0_takePlayers 1 = .ok (.aload_n 1, 1) := by decide +kernel
theorem dX0_takePlayers_2 : decode cX0_takePlayers 2 = .ok (.invokevirtual 58, 3) := by decide +kernel
theorem dX0_takePlayers_5 : decode cX0_takePlayers 5 = .ok (.bipush 11, 2) := by decide +kernel
theorem dX0_takePlayers_7 : decode cX0_takePlayers 7 = .ok (.invokestatic 64, 3) := by decide +kernel
theorem dX0_takePlayers_10 : decode cX0_takePlayers 10 = .ok (.putfield 9, 3) := by decide +kernel
theorem dX0_takePlayers_13 : decode cX0_takePlayers 13 = .ok (.iconst 0, 1) := by decide +kernel
theorem dX0_takePlayers_14 : decode cX0_takePlayers 14 = .ok (.istore_n 2, 1) := by decide +kernel
theorem dX0_takePlayers_15 : decode cX0_takePlayers 15 = .ok (.iload_n 2, 1) := by decide +kernel
theorem dX0_takePlayers_16 : decode cX0_takePlayers 16 = .ok (.aload_n 0, 1) := by decide +kernel
theorem dX0_takePlayers_17 : decode cX0_takePlayers 17 = .ok (.getfield 9, 3) := by decide +kernel
theorem dX0_takePlayers_20 : decode cX0_takePlayers 20 = .ok (.if_icmp .ge 47, 3) := by decide +kernel
theorem dX0_takePlayers_23 : decode cX0_takePlayers 23 = .ok (.aload_n 0, 1) := by decide +kernel
theorem dX0_takePlayers_24 : decode cX0_takePlayers 24 = .ok (.getfield 15, 3) := by decide +kernel
theorem dX0_takePlayers_27 : decode cX0_takePlayers 27 = .ok (.iload_n 2, 1) := by decide +kernel
theorem dX0_takePlayers_28 : decode cX0_takePlayers 28 = .ok (.aload_n 1, 1) := by decide +kernel
theorem dX0_takePlayers_29 : decode cX0_takePlayers 29 = .ok (.iload_n 2, 1) := by decide +kernel
theorem dX0_takePlayers_30 : decode cX0_takePlayers 30 = .ok (.iconst 0, 1) := by decide +kernel
theorem dX0_takePlayers_31 : decode cX0_takePlayers 31 = .ok (.invokevirtual 70, 3) := by decide +kernel
theorem dX0_takePlayers_34 : decode cX0_takePlayers 34 = .ok (.iastore, 1) := by decide +kernel
theorem dX0_takePlayers_35 : decode cX0_takePlayers 35 = .ok (.aload_n 0, 1) := by decide +kernel
theorem dX0_takePlayers_36 : decode cX0_takePlayers 36 = .ok (.getfield 19, 3) := by decide +kernel
theorem dX0_takePlayers_39 : decode cX0_takePlayers 39 = .ok (.iload_n 2, 1) := by decide +kernel
theorem dX0_takePlayers_40 : decode cX0_takePlayers 40 = .ok (.aload_n 1, 1) := by decide +kernel
theorem dX0_takePlayers_41 : decode cX0_takePlayers 41 = .ok (.iload_n 2, 1) := by decide +kernel
theorem dX0_takePlayers_42 : decode cX0_takePlayers 42 = .ok (.iconst 1, 1) := by decide +kernel
theorem dX0_takePlayers_43 : decode cX0_takePlayers 43 = .ok (.invokevirtual 70, 3) := by decide +kernel
theorem dX0_takePlayers_46 : decode cX0_takePlayers 46 = .ok (.iastore, 1) := by decide +kernel
theorem dX0_takePlayers_47 : decode cX0_takePlayers 47 = .ok (.aload_n 0, 1) := by decide +kernel
theorem dX0_takePlayers_48 : decode cX0_takePlayers 48 = .ok (.getfield 22, 3) := by decide +kernel
theorem dX0_takePlayers_51 : decode cX0_takePlayers 51 = .ok (.iload_n 2, 1) := by decide +kernel
theorem dX0_takePlayers_52 : decode cX0_takePlayers 52 = .ok (.iload_n 2, 1) := by decide +kernel
theorem dX0_takePlayers_53 : decode cX0_takePlayers 53 = .ok (.iastore, 1) := by decide +kernel
theorem dX0_takePlayers_54 : decode cX0_takePlayers 54 = .ok (.aload_n 0, 1) := by decide +kernel
theorem dX0_takePlayers_55 : decode cX0_takePlayers 55 = .ok (.getfield 25, 3) := by decide +kernel
theorem dX0_takePlayers_58 : decode cX0_takePlayers 58 = .ok (.iload_n 2, 1) := by decide +kernel
theorem dX0_takePlayers_59 : decode cX0_takePlayers 59 = .ok (.iload_n 2, 1) := by decide +kernel
theorem dX0_takePlayers_60 : decode cX0_takePlayers 60 = .ok (.iastore, 1) := by decide +kernel
theorem dX0_takePlayers_61 : decode cX0_takePlayers 61 = .ok (.iinc 2 1, 3) := by decide +kernel
theorem dX0_takePlayers_64 : decode cX0_takePlayers 64 = .ok (.goto (-49), 3) := by decide +kernel
theorem dX0_takePlayers_67 : decode cX0_takePlayers 67 = .ok (.return_, 1) := by decide +kernel
theorem dX0_takeNotes_0 : decode cX0_takeNotes 0 = .ok (.aload_n 0, 1) := by decide +kernel
theorem dX0_takeNotes_1 : decode cX0_takeNotes 1 = .ok (.invokevirtual 73, 3) := by decide +kernel
theorem dX0_takeNotes_4 : decode cX0_takeNotes 4 = .ok (.aload_n 1, 1) := by decide +kernel
theorem dX0_takeNotes_5 : decode cX0_takeNotes 5 = .ok (.invokevirtual 58, 3) := by decide +kernel
theorem dX0_takeNotes_8 : decode cX0_takeNotes 8 = .ok (.istore_n 2, 1) := by decide +kernel
theorem dX0_takeNotes_9 : decode cX0_takeNotes 9 = .ok (.iconst 0, 1) := by decide +kernel
theorem dX0_takeNotes_10 : decode cX0_takeNotes 10 = .ok (.istore_n 3, 1) := by decide +kernel
theorem dX0_takeNotes_11 : decode cX0_takeNotes 11 = .ok (.iload_n 3, 1) := by decide +kernel
theorem dX0_takeNotes_12 : decode cX0_takeNotes 12 = .ok (.iload_n 2, 1) := by decide +kernel
theorem dX0_takeNotes_13 : decode cX0_takeNotes 13 = .ok (.if_icmp .ge 25, 3) := by decide +kernel
theorem dX0_takeNotes_16 : decode cX0_takeNotes 16 = .ok (.aload_n 0, 1) := by decide +kernel
theorem dX0_takeNotes_17 : decode cX0_takeNotes 17 = .ok (.aload_n 1, 1) := by decide +kernel
theorem dX0_takeNotes_18 : decode cX0_takeNotes 18 = .ok (.iload_n 3, 1) := by decide +kernel
theorem dX0_takeNotes_19 : decode cX0_takeNotes 19 = .ok (.iconst 0, 1) := by decide +kernel
theorem dX0_takeNotes_20 : decode cX0_takeNotes 20 = .ok (.invokevirtual 70, 3) := by decide +kernel
theorem dX0_takeNotes_23 : decode cX0_takeNotes 23 = .ok (.aload_n 1, 1) := by decide +kernel
theorem dX0_takeNotes_24 : decode cX0_takeNotes 24 = .ok (.iload_n 3, 1) := by decide +kernel
theorem dX0_takeNotes_25 : decode cX0_takeNotes 25 = .ok (.iconst 1, 1) := by decide +kernel
theorem dX0_takeNotes_26 : decode cX0_takeNotes 26 = .ok (.invokevirtual 70, 3) := by decide +kernel
theorem dX0_takeNotes_29 : decode cX0_takeNotes 29 = .ok (.invokevirtual 76, 3) := by decide +kernel
theorem dX0_takeNotes_32 : decode cX0_takeNotes 32 = .ok (.iinc 3 1, 3) := by decide +kernel
theorem dX0_takeNotes_35 : decode cX0_takeNotes 35 = .ok (.goto (-24), 3) := by decide +kernel
theorem dX0_takeNotes_38 : decode cX0_takeNotes 38 = .ok (.return_, 1) := by decide +kernel
theorem dX0_clearNotes_0 : decode cX0_clearNotes 0 = .ok (.aload_n 0, 1) := by decide +kernel
theorem dX0_clearNotes_1 : decode cX0_clearNotes 1 = .ok (.iconst 0, 1) := by decide +kernel
theorem dX0_clearNotes_2 : decode cX0_clearNotes 2 = .ok (.putfield 28, 3) := by decide +kernel
theorem dX0_clearNotes_5 : decode cX0_clearNotes 5 = .ok (.aload_n 0, 1) := by decide +kernel
theorem dX0_clearNotes_6 : decode cX0_clearNotes 6 = .ok (.getfield 37, 3) := by decide +kernel
theorem dX0_clearNotes_9 : decode cX0_clearNotes 9 = .ok (.iconst 0, 1) := by decide +kernel
theorem dX0_clearNotes_10 : decode cX0_clearNotes 10 = .ok (.invokestatic 80, 3) := by decide +kernel
theorem dX0_clearNotes_13 : decode cX0_clearNotes 13 = .ok (.return_, 1) := by decide +kernel
theorem dX0_addNote_0 : decode cX0_addNote 0 = .ok (.aload_n 0, 1) := by decide +kernel
theorem dX0_addNote_1 : decode cX0_addNote 1 = .ok (.getfield 28, 3) := by decide +kernel
theorem dX0_addNote_4 : decode cX0_addNote 4 = .ok (.bipush 16, 2) := by decide +kernel
theorem dX0_addNote_6 : decode cX0_addNote 6 = .ok (.if_icmp .ge 23, 3) := by decide +kernel
theorem dX0_addNote_9 : decode cX0_addNote 9 = .ok (.iload_n 1, 1) := by decide +kernel
theorem dX0_addNote_10 : decode cX0_addNote 10 = .ok (.iconst 0, 1) := by decide +kernel
theorem dX0_addNote_11 : decode cX0_addNote 11 = .ok (.bipush 23, 2) := by decide +kernel
theorem dX0_addNote_13 : decode cX0_addNote 13 = .ok (.invokestatic 86, 3) := by decide +kernel
theorem dX0_addNote_16 : decode cX0_addNote 16 = .ok (.ifCond .eq 13, 3) := by decide +kernel
theorem dX0_addNote_19 : decode cX0_addNote 19 = .ok (.iload_n 2, 1) := by decide +kernel
theorem dX0_addNote_20 : decode cX0_addNote 20 = .ok (.iconst 0, 1) := by decide +kernel
theorem dX0_addNote_21 : decode cX0_addNote 21 = .ok (.bipush 10, 2) := by decide +kernel
theorem dX0_addNote_23 : decode cX0_addNote 23 = .ok (.invokestatic 86, 3) := by decide +kernel
theorem dX0_addNote_26 : decode cX0_addNote 26 = .ok (.ifCond .ne 4, 3) := by decide +kernel
theorem dX0_addNote_29 : decode cX0_addNote 29 = .ok (.return_, 1) := by decide +kernel
theorem dX0_addNote_30 : decode cX0_addNote 30 = .ok (.aload_n 0, 1) := by decide +kernel
theorem dX0_addNote_31 : decode cX0_addNote 31 = .ok (.getfield 31, 3) := by decide +kernel
theorem dX0_addNote_34 : decode cX0_addNote 34 = .ok (.aload_n 0, 1) := by decide +kernel
theorem dX0_addNote_35 : decode cX0_addNote 35 = .ok (.getfield 28, 3) := by decide +kernel
theorem dX0_addNote_38 : decode cX0_addNote 38 = .ok (.iload_n 1, 1) := by decide +kernel
theorem dX0_addNote_39 : decode cX0_addNote 39 = .ok (.iastore, 1) := by decide +kernel
theorem dX0_addNote_40 : decode cX0_addNote 40 = .ok (.aload_n 0, 1) := by decide +kernel
theorem dX0_addNote_41 : decode cX0_addNote 41 = .ok (.getfield 34, 3) := by decide +kernel
theorem dX0_addNote_44 : decode cX0_addNote 44 = .ok (.aload_n 0, 1) := by decide +kernel
theorem dX0_addNote_45 : decode cX0_addNote 45 = .ok (.getfield 28, 3) := by decide +kernel
theorem dX0_addNote_48 : decode cX0_addNote 48 = .ok (.iload_n 2, 1) := by decide +kernel
theorem dX0_addNote_49 : decode cX0_addNote 49 = .ok (.iastore, 1) := by decide +kernel
theorem dX0_addNote_50 : decode cX0_addNote 50 = .ok (.aload_n 0, 1) := by decide +kernel
theorem dX0_addNote_51 : decode cX0_addNote 51 = .ok (.getfield 37, 3) := by decide +kernel
theorem dX0_addNote_54 : decode cX0_addNote 54 = .ok (.iload_n 1, 1) := by decide +kernel
theorem dX0_addNote_55 : decode cX0_addNote 55 = .ok (.dup2, 1) := by decide +kernel
theorem dX0_addNote_56 : decode cX0_addNote 56 = .ok (.iaload, 1) := by decide +kernel
theorem dX0_addNote_57 : decode cX0_addNote 57 = .ok (.iconst 1, 1) := by decide +kernel
theorem dX0_addNote_58 : decode cX0_addNote 58 = .ok (.aload_n 0, 1) := by decide +kernel
theorem dX0_addNote_59 : decode cX0_addNote 59 = .ok (.getfield 28, 3) := by decide +kernel
theorem dX0_addNote_62 : decode cX0_addNote 62 = .ok (.ishl, 1) := by decide +kernel
theorem dX0_addNote_63 : decode cX0_addNote 63 = .ok (.ior, 1) := by decide +kernel
theorem dX0_addNote_64 : decode cX0_addNote 64 = .ok (.iastore, 1) := by decide +kernel
theorem dX0_addNote_65 : decode cX0_addNote 65 = .ok (.aload_n 0, 1) := by decide +kernel
theorem dX0_addNote_66 : decode cX0_addNote 66 = .ok (.dup, 1) := by decide +kernel
theorem dX0_addNote_67 : decode cX0_addNote 67 = .ok (.getfield 28, 3) := by decide +kernel
theorem dX0_addNote_70 : decode cX0_addNote 70 = .ok (.iconst 1, 1) := by decide +kernel
theorem dX0_addNote_71 : decode cX0_addNote 71 = .ok (.iadd, 1) := by decide +kernel
theorem dX0_addNote_72 : decode cX0_addNote 72 = .ok (.putfield 28, 3) := by decide +kernel
theorem dX0_addNote_75 : decode cX0_addNote 75 = .ok (.return_, 1) := by decide +kernel
theorem dX0_addEvent_0 : decode cX0_addEvent 0 = .ok (.aload_n 0, 1) := by decide +kernel
theorem dX0_addEvent_1 : decode cX0_addEvent 1 = .ok (.getfield 43, 3) := by decide +kernel
theorem dX0_addEvent_4 : decode cX0_addEvent 4 = .ok (.bipush 8, 2) := by decide +kernel
theorem dX0_addEvent_6 : decode cX0_addEvent 6 = .ok (.if_icmp .ge 11, 3) := by decide +kernel
theorem dX0_addEvent_9 : decode cX0_addEvent 9 = .ok (.iload_n 1, 1) := by decide +kernel
theorem dX0_addEvent_10 : decode cX0_addEvent 10 = .ok (.iload_n 2, 1) := by decide +kernel
theorem dX0_addEvent_11 : decode cX0_addEvent 11 = .ok (.invokestatic 90, 3) := by decide +kernel
theorem dX0_addEvent_14 : decode cX0_addEvent 14 = .ok (.ifCond .ne 5, 3) := by decide +kernel
theorem dX0_addEvent_17 : decode cX0_addEvent 17 = .ok (.iconst 0, 1) := by decide +kernel
theorem dX0_addEvent_18 : decode cX0_addEvent 18 = .ok (.ireturn, 1) := by decide +kernel
theorem dX0_addEvent_19 : decode cX0_addEvent 19 = .ok (.aload_n 0, 1) := by decide +kernel
theorem dX0_addEvent_20 : decode cX0_addEvent 20 = .ok (.getfield 46, 3) := by decide +kernel
theorem dX0_addEvent_23 : decode cX0_addEvent 23 = .ok (.aload_n 0, 1) := by decide +kernel
theorem dX0_addEvent_24 : decode cX0_addEvent 24 = .ok (.getfield 43, 3) := by decide +kernel
theorem dX0_addEvent_27 : decode cX0_addEvent 27 = .ok (.iload_n 1, 1) := by decide +kernel
theorem dX0_addEvent_28 : decode cX0_addEvent 28 = .ok (.iastore, 1) := by decide +kernel
theorem dX0_addEvent_29 : decode cX0_addEvent 29 = .ok (.aload_n 0, 1) := by decide +kernel
theorem dX0_addEvent_30 : decode cX0_addEvent 30 = .ok (.getfield 49, 3) := by decide +kernel
theorem dX0_addEvent_33 : decode cX0_addEvent 33 = .ok (.aload_n 0, 1) := by decide +kernel
theorem dX0_addEvent_34 : decode cX0_addEvent 34 = .ok (.getfield 43, 3) := by decide +kernel
theorem dX0_addEvent_37 : decode cX0_addEvent 37 = .ok (.iload_n 2, 1) := by decide +kernel
theorem dX0_addEvent_38 : decode cX0_addEvent 38 = .ok (.iastore, 1) := by decide +kernel
theorem dX0_addEvent_39 : decode cX0_addEvent 39 = .ok (.aload_n 0, 1) := by decide +kernel
theorem dX0_addEvent_40 : decode cX0_addEvent 40 = .ok (.dup, 1) := by decide +kernel
theorem dX0_addEvent_41 : decode cX0_addEvent 41 = .ok (.getfield 43, 3) := by decide +kernel
theorem dX0_addEvent_44 : decode cX0_addEvent 44 = .ok (.iconst 1, 1) := by decide +kernel
theorem dX0_addEvent_45 : decode cX0_addEvent 45 = .ok (.iadd, 1) := by decide +kernel
theorem dX0_addEvent_46 : decode cX0_addEvent 46 = .ok (.putfield 43, 3) := by decide +kernel
theorem dX0_addEvent_49 : decode cX0_addEvent 49 = .ok (.iconst 1, 1) := by decide +kernel
theorem dX0_addEvent_50 : decode cX0_addEvent 50 = .ok (.ireturn, 1) := by decide +kernel
theorem dX0_become_0 : decode cX0_become 0 = .ok (.aload_n 0, 1) := by decide +kernel
theorem dX0_become_1 : decode cX0_become 1 = .ok (.aload_n 1, 1) := by decide +kernel
theorem dX0_become_2 : decode cX0_become 2 = .ok (.getfield 9, 3) := by decide +kernel
theorem dX0_become_5 : decode cX0_become 5 = .ok (.putfield 9, 3) := by decide +kernel
theorem dX0_become_8 : decode cX0_become 8 = .ok (.aload_n 1, 1) := by decide +kernel
theorem dX0_become_9 : decode cX0_become 9 = .ok (.getfield 15, 3) := by decide +kernel
theorem dX0_become_12 : decode cX0_become 12 = .ok (.iconst 0, 1) := by decide +kernel
theorem dX0_become_13 : decode cX0_become 13 = .ok (.aload_n 0, 1) := by decide +kernel
theorem dX0_become_14 : decode cX0_become 14 = .ok (.getfield 15, 3) := by decide +kernel
theorem dX0_become_17 : decode cX0_become 17 = .ok (.iconst 0, 1) := by decide +kernel
theorem dX0_become_18 : decode cX0_become 18 = .ok (.bipush 11, 2) := by decide +kernel
theorem dX0_become_20 : decode cX0_become 20 = .ok (.invokestatic 94, 3) := by decide +kernel
theorem dX0_become_23 : decode cX0_become 23 = .ok (.aload_n 1, 1) := by decide +kernel
theorem dX0_become_24 : decode cX0_become 24 = .ok (.getfield 19, 3) := by decide +kernel
theorem dX0_become_27 : decode cX0_become 27 = .ok (.iconst 0, 1) := by decide +kernel
theorem dX0_become_28 : decode cX0_become 28 = .ok (.aload_n 0, 1) := by decide +kernel
theorem dX0_become_29 : decode cX0_become 29 = .ok (.getfield 19, 3) := by decide +kernel
theorem dX0_become_32 : decode cX0_become 32 = .ok (.iconst 0, 1) := by decide +kernel
theorem dX0_become_33 : decode cX0_become 33 = .ok (.bipush 11, 2) := by decide +kernel
theorem dX0_become_35 : decode cX0_become 35 = .ok (.invokestatic 94, 3) := by decide +kernel
theorem dX0_become_38 : decode cX0_become 38 = .ok (.aload_n 1, 1) := by decide +kernel
theorem dX0_become_39 : decode cX0_become 39 = .ok (.getfield 22, 3) := by decide +kernel
theorem dX0_become_42 : decode cX0_become 42 = .ok (.iconst 0, 1) := by decide +kernel
theorem dX0_become_43 : decode cX0_become 43 = .ok (.aload_n 0, 1) := by decide +kernel
theorem dX0_become_44 : decode cX0_become 44 = .ok (.getfield 22, 3) := by decide +kernel
theorem dX0_become_47 : decode cX0_become 47 = .ok (.iconst 0, 1) := by decide +kernel
theorem dX0_become_48 : decode cX0_become 48 = .ok (.bipush 11, 2) := by decide +kernel
theorem dX0_become_50 : decode cX0_become 50 = .ok (.invokestatic 94, 3) := by decide +kernel
theorem dX0_become_53 : decode cX0_become 53 = .ok (.aload_n 1, 1) := by decide +kernel
theorem dX0_become_54 : decode cX0_become 54 = .ok (.getfield 25, 3) := by decide +kernel
theorem dX0_become_57 : decode cX0_become 57 = .ok (.iconst 0, 1) := by decide +kernel
theorem dX0_become_58 : decode cX0_become 58 = .ok (.aload_n 0, 1) := by decide +kernel
theorem dX0_become_59 : decode cX0_become 59 = .ok (.getfield 25, 3) := by decide +kernel
theorem dX0_become_62 : decode cX0_become 62 = .ok (.iconst 0, 1) := by decide +kernel
theorem dX0_become_63 : decode cX0_become 63 = .ok (.bipush 11, 2) := by decide +kernel
theorem dX0_become_65 : decode cX0_become 65 = .ok (.invokestatic 94, 3) := by decide +kernel
theorem dX0_become_68 : decode cX0_become 68 = .ok (.aload_n 0, 1) := by decide +kernel
theorem dX0_become_69 : decode cX0_become 69 = .ok (.aload_n 1, 1) := by decide +kernel
theorem dX0_become_70 : decode cX0_become 70 = .ok (.getfield 28, 3) := by decide +kernel
theorem dX0_become_73 : decode cX0_become 73 = .ok (.putfield 28, 3) := by decide +kernel
theorem dX0_become_76 : decode cX0_become 76 = .ok (.aload_n 1, 1) := by decide +kernel
theorem dX0_become_77 : decode cX0_become 77 = .ok (.getfield 31, 3) := by decide +kernel
theorem dX0_become_80 : decode cX0_become 80 = .ok (.iconst 0, 1) := by decide +kernel
theorem dX0_become_81 : decode cX0_become 81 = .ok (.aload_n 0, 1) := by decide +kernel
theorem dX0_become_82 : decode cX0_become 82 = .ok (.getfield 31, 3) := by decide +kernel
theorem dX0_become_85 : decode cX0_become 85 = .ok (.iconst 0, 1) := by decide +kernel
theorem dX0_become_86 : decode cX0_become 86 = .ok (.bipush 16, 2) := by decide +kernel
theorem dX0_become_88 : decode cX0_become 88 = .ok (.invokestatic 94, 3) := by decide +kernel
theorem dX0_become_91 : decode cX0_become 91 = .ok (.aload_n 1, 1) := by decide +kernel
theorem dX0_become_92 : decode cX0_become 92 = .ok (.getfield 34, 3) := by decide +kernel
theorem dX0_become_95 : decode cX0_become 95 = .ok (.iconst 0, 1) := by decide +kernel
theorem dX0_become_96 : decode cX0_become 96 = .ok (.aload_n 0, 1) := by decide +kernel
theorem dX0_become_97 : decode cX0_become 97 = .ok (.getfield 34, 3) := by decide +kernel
theorem dX0_become_100 : decode cX0_become 100 = .ok (.iconst 0, 1) := by decide +kernel
theorem dX0_become_101 : decode cX0_become 101 = .ok (.bipush 16, 2) := by decide +kernel
theorem dX0_become_103 : decode cX0_become 103 = .ok (.invokestatic 94, 3) := by decide +kernel
theorem dX0_become_106 : decode cX0_become 106 = .ok (.aload_n 1, 1) := by decide +kernel
theorem dX0_become_107 : decode cX0_become 107 = .ok (.getfield 37, 3) := by decide +kernel
theorem dX0_become_110 : decode cX0_become 110 = .ok (.iconst 0, 1) := by decide +kernel
theorem dX0_become_111 : decode cX0_become 111 = .ok (.aload_n 0, 1) := by decide +kernel
theorem dX0_become_112 : decode cX0_become 112 = .ok (.getfield 37, 3) := by decide +kernel
theorem dX0_become_115 : decode cX0_become 115 = .ok (.iconst 0, 1) := by decide +kernel
theorem dX0_become_116 : decode cX0_become 116 = .ok (.bipush 24, 2) := by decide +kernel
theorem dX0_become_118 : decode cX0_become 118 = .ok (.invokestatic 94, 3) := by decide +kernel
theorem dX0_become_121 : decode cX0_become 121 = .ok (.aload_n 0, 1) := by decide +kernel
theorem dX0_become_122 : decode cX0_become 122 = .ok (.aload_n 1, 1) := by decide +kernel
theorem dX0_become_123 : decode cX0_become 123 = .ok (.getfield 40, 3) := by decide +kernel
theorem dX0_become_126 : decode cX0_become 126 = .ok (.putfield 40, 3) := by decide +kernel
theorem dX0_become_129 : decode cX0_become 129 = .ok (.aload_n 0, 1) := by decide +kernel
theorem dX0_become_130 : decode cX0_become 130 = .ok (.aload_n 1, 1) := by decide +kernel
theorem dX0_become_131 : decode cX0_become 131 = .ok (.getfield 43, 3) := by decide +kernel
theorem dX0_become_134 : decode cX0_become 134 = .ok (.putfield 43, 3) := by decide +kernel
theorem dX0_become_137 : decode cX0_become 137 = .ok (.aload_n 1, 1) := by decide +kernel
theorem dX0_become_138 : decode cX0_become 138 = .ok (.getfield 46, 3) := by decide +kernel
theorem dX0_become_141 : decode cX0_become 141 = .ok (.iconst 0, 1) := by decide +kernel
theorem dX0_become_142 : decode cX0_become 142 = .ok (.aload_n 0, 1) := by decide +kernel
theorem dX0_become_143 : decode cX0_become 143 = .ok (.getfield 46, 3) := by decide +kernel
theorem dX0_become_146 : decode cX0_become 146 = .ok (.iconst 0, 1) := by decide +kernel
theorem dX0_become_147 : decode cX0_become 147 = .ok (.bipush 8, 2) := by decide +kernel
theorem dX0_become_149 : decode cX0_become 149 = .ok (.invokestatic 94, 3) := by decide +kernel
theorem dX0_become_152 : decode cX0_become 152 = .ok (.aload_n 1, 1) := by decide +kernel
theorem dX0_become_153 : decode cX0_become 153 = .ok (.getfield 49, 3) := by decide +kernel
theorem dX0_become_156 : decode cX0_become 156 = .ok (.iconst 0, 1) := by decide +kernel
theorem dX0_become_157 : decode cX0_become 157 = .ok (.aload_n 0, 1) := by decide +kernel
theorem dX0_become_158 : decode cX0_become 158 = .ok (.getfield 49, 3) := by decide +kernel
theorem dX0_become_161 : decode cX0_become 161 = .ok (.iconst 0, 1) := by decide +kernel
theorem dX0_become_162 : decode cX0_become 162 = .ok (.bipush 8, 2) := by decide +kernel
theorem dX0_become_164 : decode cX0_become 164 = .ok (.invokestatic 94, 3) := by decide +kernel
theorem dX0_become_167 : decode cX0_become 167 = .ok (.aload_n 0, 1) := by decide +kernel
theorem dX0_become_168 : decode cX0_become 168 = .ok (.aload_n 1, 1) := by decide +kernel
theorem dX0_become_169 : decode cX0_become 169 = .ok (.getfield 52, 3) := by decide +kernel
theorem dX0_become_172 : decode cX0_become 172 = .ok (.putfield 52, 3) := by decide +kernel
theorem dX0_become_175 : decode cX0_become 175 = .ok (.aload_n 0, 1) := by decide +kernel
theorem dX0_become_176 : decode cX0_become 176 = .ok (.aload_n 1, 1) := by decide +kernel
theorem dX0_become_177 : decode cX0_become 177 = .ok (.getfield 55, 3) := by decide +kernel
theorem dX0_become_180 : decode cX0_become 180 = .ok (.putfield 55, 3) := by decide +kernel
theorem dX0_become_183 : decode cX0_become 183 = .ok (.return_, 1) := by decide +kernel
theorem dX0_changeSeats_0 : decode cX0_changeSeats 0 = .ok (.aload_n 0, 1) := by decide +kernel
theorem dX0_changeSeats_1 : decode cX0_changeSeats 1 = .ok (.getfield 22, 3) := by decide +kernel
theorem dX0_changeSeats_4 : decode cX0_changeSeats 4 = .ok (.iload_n 1, 1) := by decide +kernel
theorem dX0_changeSeats_5 : decode cX0_changeSeats 5 = .ok (.iaload, 1) := by decide +kernel
theorem dX0_changeSeats_6 : decode cX0_changeSeats 6 = .ok (.istore_n 3, 1) := by decide +kernel
theorem dX0_changeSeats_7 : decode cX0_changeSeats 7 = .ok (.aload_n 0, 1) := by decide +kernel
theorem dX0_changeSeats_8 : decode cX0_changeSeats 8 = .ok (.getfield 22, 3) := by decide +kernel
theorem dX0_changeSeats_11 : decode cX0_changeSeats 11 = .ok (.iload_n 1, 1) := by decide +kernel
theorem dX0_changeSeats_12 : decode cX0_changeSeats 12 = .ok (.aload_n 0, 1) := by decide +kernel
theorem dX0_changeSeats_13 : decode cX0_changeSeats 13 = .ok (.getfield 22, 3) := by decide +kernel
theorem dX0_changeSeats_16 : decode cX0_changeSeats 16 = .ok (.iload_n 2, 1) := by decide +kernel
theorem dX0_changeSeats_17 : decode cX0_changeSeats 17 = .ok (.iaload, 1) := by decide +kernel
theorem dX0_changeSeats_18 : decode cX0_changeSeats 18 = .ok (.iastore, 1) := by decide +kernel
theorem dX0_changeSeats_19 : decode cX0_changeSeats 19 = .ok (.aload_n 0, 1) := by decide +kernel
theorem dX0_changeSeats_20 : decode cX0_changeSeats 20 = .ok (.getfield 22, 3) := by decide +kernel
theorem dX0_changeSeats_23 : decode cX0_changeSeats 23 = .ok (.iload_n 2, 1) := by decide +kernel
theorem dX0_changeSeats_24 : decode cX0_changeSeats 24 = .ok (.iload_n 3, 1) := by decide +kernel
theorem dX0_changeSeats_25 : decode cX0_changeSeats 25 = .ok (.iastore, 1) := by decide +kernel
theorem dX0_changeSeats_26 : decode cX0_changeSeats 26 = .ok (.aload_n 0, 1) := by decide +kernel
theorem dX0_changeSeats_27 : decode cX0_changeSeats 27 = .ok (.getfield 25, 3) := by decide +kernel
theorem dX0_changeSeats_30 : decode cX0_changeSeats 30 = .ok (.aload_n 0, 1) := by decide +kernel
theorem dX0_changeSeats_31 : decode cX0_changeSeats 31 = .ok (.getfield 22, 3) := by decide +kernel
theorem dX0_changeSeats_34 : decode cX0_changeSeats 34 = .ok (.iload_n 1, 1) := by decide +kernel
theorem dX0_changeSeats_35 : decode cX0_changeSeats 35 = .ok (.iaload, 1) := by decide +kernel
theorem dX0_changeSeats_36 : decode cX0_changeSeats 36 = .ok (.iload_n 1, 1) := by decide +kernel
theorem dX0_changeSeats_37 : decode cX0_changeSeats 37 = .ok (.iastore, 1) := by decide +kernel
theorem dX0_changeSeats_38 : decode cX0_changeSeats 38 = .ok (.aload_n 0, 1) := by decide +kernel
theorem dX0_changeSeats_39 : decode cX0_changeSeats 39 = .ok (.getfield 25, 3) := by decide +kernel
theorem dX0_changeSeats_42 : decode cX0_changeSeats 42 = .ok (.aload_n 0, 1) := by decide +kernel
theorem dX0_changeSeats_43 : decode cX0_changeSeats 43 = .ok (.getfield 22, 3) := by decide +kernel
theorem dX0_changeSeats_46 : decode cX0_changeSeats 46 = .ok (.iload_n 2, 1) := by decide +kernel
theorem dX0_changeSeats_47 : decode cX0_changeSeats 47 = .ok (.iaload, 1) := by decide +kernel
theorem dX0_changeSeats_48 : decode cX0_changeSeats 48 = .ok (.iload_n 2, 1) := by decide +kernel
theorem dX0_changeSeats_49 : decode cX0_changeSeats 49 = .ok (.iastore, 1) := by decide +kernel
theorem dX0_changeSeats_50 : decode cX0_changeSeats 50 = .ok (.return_, 1) := by decide +kernel
theorem dX1_init_0 : decode cX1_init 0 = .ok (.aload_n 0, 1) := by decide +kernel
theorem dX1_init_1 : decode cX1_init 1 = .ok (.invokespecial 3, 3) := by decide +kernel
theorem dX1_init_4 : decode cX1_init 4 = .ok (.aload_n 0, 1) := by decide +kernel
theorem dX1_init_5 : decode cX1_init 5 = .ok (.iconst 0, 1) := by decide +kernel
theorem dX1_init_6 : decode cX1_init 6 = .ok (.putfield 9, 3) := by decide +kernel
theorem dX1_init_9 : decode cX1_init 9 = .ok (.return_, 1) := by decide +kernel
theorem dX1_begin_0 : decode cX1_begin 0 = .ok (.aload_n 0, 1) := by decide +kernel
theorem dX1_begin_1 : decode cX1_begin 1 = .ok (.iconst 1, 1) := by decide +kernel
theorem dX1_begin_2 : decode cX1_begin 2 = .ok (.putfield 9, 3) := by decide +kernel
theorem dX1_begin_5 : decode cX1_begin 5 = .ok (.aload_n 0, 1) := by decide +kernel
theorem dX1_begin_6 : decode cX1_begin 6 = .ok (.iconst (-1), 1) := by decide +kernel
theorem dX1_begin_7 : decode cX1_begin 7 = .ok (.putfield 15, 3) := by decide +kernel
theorem dX1_begin_10 : decode cX1_begin 10 = .ok (.aload_n 0, 1) := by decide +kernel
theorem dX1_begin_11 : decode cX1_begin 11 = .ok (.iconst (-1), 1) := by decide +kernel
theorem dX1_begin_12 : decode cX1_begin 12 = .ok (.putfield 19, 3) := by decide +kernel
theorem dX1_begin_15 : decode cX1_begin 15 = .ok (.aload_n 0, 1) := by decide +kernel
theorem dX1_begin_16 : decode cX1_begin 16 = .ok (.iconst (-1), 1) := by decide +kernel
theorem dX1_begin_17 : decode cX1_begin 17 = .ok (.putfield 22, 3) := by decide +kernel
theorem dX1_begin_20 : decode cX1_begin 20 = .ok (.return_, 1) := by decide +kernel
theorem dX1_offer_0 : decode cX1_offer 0 = .ok (.iload_n 3, 1) := by decide +kernel
theorem dX1_offer_1 : decode cX1_offer 1 = .ok (.aload_n 0, 1) := by decide +kernel
theorem dX1_offer_2 : decode cX1_offer 2 = .ok (.getfield 22, 3) := by decide +kernel
theorem dX1_offer_5 : decode cX1_offer 5 = .ok (.if_icmp .le 18, 3) := by decide +kernel
theorem dX1_offer_8 : decode cX1_offer 8 = .ok (.aload_n 0, 1) := by decide +kernel
theorem dX1_offer_9 : decode cX1_offer 9 = .ok (.iload_n 1, 1) := by decide +kernel
theorem dX1_offer_10 : decode cX1_offer 10 = .ok (.putfield 15, 3) := by decide +kernel
theorem dX1_offer_13 : decode cX1_offer 13 = .ok (.aload_n 0, 1) := by decide +kernel
theorem dX1_offer_14 : decode cX1_offer 14 = .ok (.iload_n 2, 1) := by decide +kernel
theorem dX1_offer_15 : decode cX1_offer 15 = .ok (.putfield 19, 3) := by decide +kernel
theorem dX1_offer_18 : decode cX1_offer 18 = .ok (.aload_n 0, 1) := by decide +kernel
theorem dX1_offer_19 : decode cX1_offer 19 = .ok (.iload_n 3, 1) := by decide +kernel
theorem dX1_offer_20 : decode cX1_offer 20 = .ok (.putfield 22, 3) := by decide +kernel
theorem dX1_offer_23 : decode cX1_offer 23 = .ok (.return_, 1) := by decide +kernel
theorem dX2_init_0 : decode cX2_init 0 = .ok (.aload_n 0, 1) := by decide +kernel
theorem dX2_init_1 : decode cX2_init 1 = .ok (.invokespecial 3, 3) := by decide +kernel
theorem dX2_init_4 : decode cX2_init 4 = .ok (.aload_n 0, 1) := by decide +kernel
theorem dX2_init_5 : decode cX2_init 5 = .ok (.bipush 8, 2) := by decide +kernel
theorem dX2_init_7 : decode cX2_init 7 = .ok (.newarray .int, 2) := by decide +kernel
theorem dX2_init_9 : decode cX2_init 9 = .ok (.putfield 9, 3) := by decide +kernel
theorem dX2_init_12 : decode cX2_init 12 = .ok (.aload_n 0, 1) := by decide +kernel
theorem dX2_init_13 : decode cX2_init 13 = .ok (.bipush 8, 2) := by decide +kernel
theorem dX2_init_15 : decode cX2_init 15 = .ok (.newarray .int, 2) := by decide +kernel
theorem dX2_init_17 : decode cX2_init 17 = .ok (.putfield 15, 3) := by decide +kernel
theorem dX2_init_20 : decode cX2_init 20 = .ok (.aload_n 0, 1) := by decide +kernel
theorem dX2_init_21 : decode cX2_init 21 = .ok (.iconst 0, 1) := by decide +kernel
theorem dX2_init_22 : decode cX2_init 22 = .ok (.putfield 18, 3) := by decide +kernel
theorem dX2_init_25 : decode cX2_init 25 = .ok (.return_, 1) := by decide +kernel
theorem dX2_remember_0 : decode cX2_remember 0 = .ok (.aload_n 0, 1) := by decide +kernel
theorem dX2_remember_1 : decode cX2_remember 1 = .ok (.getfield 18, 3) := by decide +kernel
theorem dX2_remember_4 : decode cX2_remember 4 = .ok (.bipush 8, 2) := by decide +kernel
theorem dX2_remember_6 : decode cX2_remember 6 = .ok (.if_icmp .lt 5, 3) := by decide +kernel
theorem dX2_remember_9 : decode cX2_remember 9 = .ok (.iconst 0, 1) := by decide +kernel
theorem dX2_remember_10 : decode cX2_remember 10 = .ok (.ireturn, 1) := by decide +kernel
theorem dX2_remember_11 : decode cX2_remember 11 = .ok (.aload_n 0, 1) := by decide +kernel
theorem dX2_remember_12 : decode cX2_remember 12 = .ok (.getfield 9, 3) := by decide +kernel
theorem dX2_remember_15 : decode cX2_remember 15 = .ok (.aload_n 0, 1) := by decide +kernel
theorem dX2_remember_16 : decode cX2_remember 16 = .ok (.getfield 18, 3) := by decide +kernel
theorem dX2_remember_19 : decode cX2_remember 19 = .ok (.iload_n 1, 1) := by decide +kernel
theorem dX2_remember_20 : decode cX2_remember 20 = .ok (.iastore, 1) := by decide +kernel
theorem dX2_remember_21 : decode cX2_remember 21 = .ok (.aload_n 0, 1) := by decide +kernel
theorem dX2_remember_22 : decode cX2_remember 22 = .ok (.getfield 15, 3) := by decide +kernel
theorem dX2_remember_25 : decode cX2_remember 25 = .ok (.aload_n 0, 1) := by decide +kernel
theorem dX2_remember_26 : decode cX2_remember 26 = .ok (.getfield 18, 3) := by decide +kernel
theorem dX2_remember_29 : decode cX2_remember 29 = .ok (.iload_n 2, 1) := by decide +kernel
theorem dX2_remember_30 : decode cX2_remember 30 = .ok (.iastore, 1) := by decide +kernel
theorem dX2_remember_31 : decode cX2_remember 31 = .ok (.aload_n 0, 1) := by decide +kernel
theorem dX2_remember_32 : decode cX2_remember 32 = .ok (.dup, 1) := by decide +kernel
theorem dX2_remember_33 : decode cX2_remember 33 = .ok (.getfield 18, 3) := by decide +kernel
theorem dX2_remember_36 : decode cX2_remember 36 = .ok (.iconst 1, 1) := by decide +kernel
theorem dX2_remember_37 : decode cX2_remember 37 = .ok (.iadd, 1) := by decide +kernel
theorem dX2_remember_38 : decode cX2_remember 38 = .ok (.putfield 18, 3) := by decide +kernel
theorem dX2_remember_41 : decode cX2_remember 41 = .ok (.iconst 1, 1) := by decide +kernel
theorem dX2_remember_42 : decode cX2_remember 42 = .ok (.ireturn, 1) := by decide +kernel
theorem dX2_fits_0 : decode cX2_fits 0 = .ok (.iconst 0, 1) := by decide +kernel
theorem dX2_fits_1 : decode cX2_fits 1 = .ok (.istore_n 3, 1) := by decide +kernel
theorem dX2_fits_2 : decode cX2_fits 2 = .ok (.iload_n 3, 1) := by decide +kernel
theorem dX2_fits_3 : decode cX2_fits 3 = .ok (.aload_n 0, 1) := by decide +kernel
theorem dX2_fits_4 : decode cX2_fits 4 = .ok (.getfield 18, 3) := by decide +kernel
theorem dX2_fits_7 : decode cX2_fits 7 = .ok (.if_icmp .ge 41, 3) := by decide +kernel
theorem dX2_fits_10 : decode cX2_fits 10 = .ok (.aload_n 0, 1) := by decide +kernel
theorem dX2_fits_11 : decode cX2_fits 11 = .ok (.getfield 9, 3) := by decide +kernel
theorem dX2_fits_14 : decode cX2_fits 14 = .ok (.iload_n 3, 1) := by decide +kernel
theorem dX2_fits_15 : decode cX2_fits 15 = .ok (.iaload, 1) := by decide +kernel
theorem dX2_fits_16 : decode cX2_fits 16 = .ok (.iload_n 2, 1) := by decide +kernel
theorem dX2_fits_17 : decode cX2_fits 17 = .ok (.if_icmp .ge 23, 3) := by decide +kernel
theorem dX2_fits_20 : decode cX2_fits 20 = .ok (.aload_n 1, 1) := by decide +kernel
theorem dX2_fits_21 : decode cX2_fits 21 = .ok (.getfield 22, 3) := by decide +kernel
theorem dX2_fits_24 : decode cX2_fits 24 = .ok (.aload_n 0, 1) := by decide +kernel
theorem dX2_fits_25 : decode cX2_fits 25 = .ok (.getfield 9, 3) := by decide +kernel
theorem dX2_fits_28 : decode cX2_fits 28 = .ok (.iload_n 3, 1) := by decide +kernel
theorem dX2_fits_29 : decode cX2_fits 29 = .ok (.iaload, 1) := by decide +kernel
theorem dX2_fits_30 : decode cX2_fits 30 = .ok (.iaload, 1) := by decide +kernel
theorem dX2_fits_31 : decode cX2_fits 31 = .ok (.aload_n 0, 1) := by decide +kernel
theorem dX2_fits_32 : decode cX2_fits 32 = .ok (.getfield 15, 3) := by decide +kernel
theorem dX2_fits_35 : decode cX2_fits 35 = .ok (.iload_n 3, 1) := by decide +kernel
theorem dX2_fits_36 : decode cX2_fits 36 = .ok (.iaload, 1) := by decide +kernel
theorem dX2_fits_37 : decode cX2_fits 37 = .ok (.if_icmp .eq 5, 3) := by decide +kernel
theorem dX2_fits_40 : decode cX2_fits 40 = .ok (.iconst 0, 1) := by decide +kernel
theorem dX2_fits_41 : decode cX2_fits 41 = .ok (.ireturn, 1) := by decide +kernel
theorem dX2_fits_42 : decode cX2_fits 42 = .ok (.iinc 3 1, 3) := by decide +kernel
theorem dX2_fits_45 : decode cX2_fits 45 = .ok (.goto (-43), 3) := by decide +kernel
theorem dX2_fits_48 : decode cX2_fits 48 = .ok (.iconst 1, 1) := by decide +kernel
theorem dX2_fits_49 : decode cX2_fits 49 = .ok (.ireturn, 1) := by decide +kernel
theorem dX3_init_0 : decode cX3_init 0 = .ok (.aload_n 0, 1) := by decide +kernel
theorem dX3_init_1 : decode cX3_init 1 = .ok (.invokespecial 3, 3) := by decide +kernel
theorem dX3_init_4 : decode cX3_init 4 = .ok (.aload_n 0, 1) := by decide +kernel
theorem dX3_init_5 : decode cX3_init 5 = .ok (.bipush 24, 2) := by decide +kernel
theorem dX3_init_7 : decode cX3_init 7 = .ok (.newarray .int, 2) := by decide +kernel
theorem dX3_init_9 : decode cX3_init 9 = .ok (.putfield 9, 3) := by decide +kernel
theorem dX3_init_12 : decode cX3_init 12 = .ok (.aload_n 0, 1) := by decide +kernel
theorem dX3_init_13 : decode cX3_init 13 = .ok (.bipush 24, 2) := by decide +kernel
theorem dX3_init_15 : decode cX3_init 15 = .ok (.newarray .int, 2) := by decide +kernel
theorem dX3_init_17 : decode cX3_init 17 = .ok (.putfield 15, 3) := by decide +kernel
theorem dX3_init_20 : decode cX3_init 20 = .ok (.aload_n 0, 1) := by decide +kernel
theorem dX3_init_21 : decode cX3_init 21 = .ok (.bipush 24, 2) := by decide +kernel
theorem dX3_init_23 : decode cX3_init 23 = .ok (.newarray .int, 2) := by decide +kernel
theorem dX3_init_25 : decode cX3_init 25 = .ok (.putfield 18, 3) := by decide +kernel
theorem dX3_init_28 : decode cX3_init 28 = .ok (.aload_n 0, 1) := by decide +kernel
theorem dX3_init_29 : decode cX3_init 29 = .ok (.bipush 16, 2) := by decide +kernel
theorem dX3_init_31 : decode cX3_init 31 = .ok (.newarray .int, 2) := by decide +kernel
theorem dX3_init_33 : decode cX3_init 33 = .ok (.putfield 21, 3) := by decide +kernel
theorem dX3_init_36 : decode cX3_init 36 = .ok (.aload_n 0, 1) := by decide +kernel
theorem dX3_init_37 : decode cX3_init 37 = .ok (.bipush 11, 2) := by decide +kernel
theorem dX3_init_39 : decode cX3_init 39 = .ok (.newarray .int, 2) := by decide +kernel
theorem dX3_init_41 : decode cX3_init 41 = .ok (.putfield 24, 3) := by decide +kernel
theorem dX3_init_44 : decode cX3_init 44 = .ok (.aload_n 0, 1) := by decide +kernel
theorem dX3_init_45 : decode cX3_init 45 = .ok (.bipush 11, 2) := by decide +kernel
theorem dX3_init_47 : decode cX3_init 47 = .ok (.newarray .int, 2) := by decide +kernel
theorem dX3_init_49 : decode cX3_init 49 = .ok (.putfield 27, 3) := by decide +kernel
theorem dX3_init_52 : decode cX3_init 52 = .ok (.aload_n 0, 1) := by decide +kernel
theorem dX3_init_53 : decode cX3_init 53 = .ok (.bipush 11, 2) := by decide +kernel
theorem dX3_init_55 : decode cX3_init 55 = .ok (.newarray .int, 2) := by decide +kernel
theorem dX3_init_57 : decode cX3_init 57 = .ok (.putfield 30, 3) := by decide +kernel
theorem dX3_init_60 : decode cX3_init 60 = .ok (.aload_n 0, 1) := by decide +kernel
theorem dX3_init_61 : decode cX3_init 61 = .ok (.bipush 24, 2) := by decide +kernel
theorem dX3_init_63 : decode cX3_init 63 = .ok (.newarray .int, 2) := by decide +kernel
theorem dX3_init_65 : decode cX3_init 65 = .ok (.putfield 33, 3) := by decide +kernel
theorem dX3_init_68 : decode cX3_init 68 = .ok (.return_, 1) := by decide +kernel
theorem dX3_play_0 : decode cX3_play 0 = .ok (.aload_n 0, 1) := by decide +kernel
theorem dX3_play_1 : decode cX3_play 1 = .ok (.aload_n 1, 1) := by decide +kernel
theorem dX3_play_2 : decode cX3_play 2 = .ok (.invokevirtual 36, 3) := by decide +kernel
theorem dX3_play_5 : decode cX3_play 5 = .ok (.aload_n 0, 1) := by decide +kernel
theorem dX3_play_6 : decode cX3_play 6 = .ok (.aload_n 1, 1) := by decide +kernel
theorem dX3_play_7 : decode cX3_play 7 = .ok (.invokevirtual 40, 3) := by decide +kernel
theorem dX3_play_10 : decode cX3_play 10 = .ok (.iconst 0, 1) := by decide +kernel
theorem dX3_play_11 : decode cX3_play 11 = .ok (.istore_n 2, 1) := by decide +kernel
theorem dX3_play_12 : decode cX3_play 12 = .ok (.iload_n 2, 1) := by decide +kernel
theorem dX3_play_13 : decode cX3_play 13 = .ok (.bipush 24, 2) := by decide +kernel
theorem dX3_play_15 : decode cX3_play 15 = .ok (.if_icmp .ge 140, 3) := by decide +kernel
theorem dX3_play_18 : decode cX3_play 18 = .ok (.aload_n 0, 1) := by decide +kernel
theorem dX3_play_19 : decode cX3_play 19 = .ok (.aload_n 0, 1) := by decide +kernel
theorem dX3_play_20 : decode cX3_play 20 = .ok (.getfield 33, 3) := by decide +kernel
theorem dX3_play_23 : decode cX3_play 23 = .ok (.iload_n 2, 1) := by decide +kernel
theorem dX3_play_24 : decode cX3_play 24 = .ok (.iaload, 1) := by decide +kernel
theorem dX3_play_25 : decode cX3_play 25 = .ok (.invokevirtual 43, 3) := by decide +kernel
theorem dX3_play_28 : decode cX3_play 28 = .ok (.aload_n 1, 1) := by decide +kernel
theorem dX3_play_29 : decode cX3_play 29 = .ok (.getfield 47, 3) := by decide +kernel
theorem dX3_play_32 : decode cX3_play 32 = .ok (.iload_n 2, 1) := by decide +kernel
theorem dX3_play_33 : decode cX3_play 33 = .ok (.iaload, 1) := by decide +kernel
theorem dX3_play_34 : decode cX3_play 34 = .ok (.istore_n 3, 1) := by decide +kernel
theorem dX3_play_35 : decode cX3_play 35 = .ok (.iconst 0, 1) := by decide +kernel
theorem dX3_play_36 : decode cX3_play 36 = .ok (.istore 4, 2) := by decide +kernel
theorem dX3_play_38 : decode cX3_play 38 = .ok (.iload 4, 2) := by decide +kernel
theorem dX3_play_40 : decode cX3_play 40 = .ok (.aload_n 1, 1) := by decide +kernel
theorem dX3_play_41 : decode cX3_play 41 = .ok (.getfield 52, 3) := by decide +kernel
theorem dX3_play_44 : decode cX3_play 44 = .ok (.if_icmp .ge 39, 3) := by decide +kernel
theorem dX3_play_47 : decode cX3_play 47 = .ok (.iload_n 3, 1) := by decide +kernel
theorem dX3_play_48 : decode cX3_play 48 = .ok (.iload 4, 2) := by decide +kernel
theorem dX3_play_50 : decode cX3_play 50 = .ok (.ishr, 1) := by decide +kernel
theorem dX3_play_51 : decode cX3_play 51 = .ok (.ifCond .eq 32, 3) := by decide +kernel
theorem dX3_play_54 : decode cX3_play 54 = .ok (.iload_n 3, 1) := by decide +kernel
theorem dX3_play_55 : decode cX3_play 55 = .ok (.iload 4, 2) := by decide +kernel
theorem dX3_play_57 : decode cX3_play 57 = .ok (.ishr, 1) := by decide +kernel
theorem dX3_play_58 : decode cX3_play 58 = .ok (.iconst 1, 1) := by decide +kernel
theorem dX3_play_59 : decode cX3_play 59 = .ok (.iand, 1) := by decide +kernel
theorem dX3_play_60 : decode cX3_play 60 = .ok (.ifCond .eq 17, 3) := by decide +kernel
theorem dX3_play_63 : decode cX3_play 63 = .ok (.aload_n 0, 1) := by decide +kernel
theorem dX3_play_64 : decode cX3_play 64 = .ok (.aload_n 1, 1) := by decide +kernel
theorem dX3_play_65 : decode cX3_play 65 = .ok (.iload 4, 2) := by decide +kernel
theorem dX3_play_67 : decode cX3_play 67 = .ok (.aload_n 1, 1) := by decide +kernel
theorem dX3_play_68 : decode cX3_play 68 = .ok (.getfield 56, 3) := by decide +kernel
theorem dX3_play_71 : decode cX3_play 71 = .ok (.iload 4, 2) := by decide +kernel
theorem dX3_play_73 : decode cX3_play 73 = .ok (.iaload, 1) := by decide +kernel
theorem dX3_play_74 : decode cX3_play 74 = .ok (.invokevirtual 59, 3) := by decide +kernel
theorem dX3_play_77 : decode cX3_play 77 = .ok (.iinc 4 1, 3) := by decide +kernel
theorem dX3_play_80 : decode cX3_play 80 = .ok (.goto (-42), 3) := by decide +kernel
theorem dX3_play_83 : decode cX3_play 83 = .ok (.aload_n 0, 1) := by decide +kernel
theorem dX3_play_84 : decode cX3_play 84 = .ok (.getfield 63, 3) := by decide +kernel
theorem dX3_play_87 : decode cX3_play 87 = .ok (.iload_n 2, 1) := by decide +kernel
theorem dX3_play_88 : decode cX3_play 88 = .ok (.ishr, 1) := by decide +kernel
theorem dX3_play_89 : decode cX3_play 89 = .ok (.iconst 1, 1) := by decide +kernel
theorem dX3_play_90 : decode cX3_play 90 = .ok (.iand, 1) := by decide +kernel
theorem dX3_play_91 : decode cX3_play 91 = .ok (.ifCond .eq 7, 3) := by decide +kernel
theorem dX3_play_94 : decode cX3_play 94 = .ok (.iconst 0, 1) := by decide +kernel
theorem dX3_play_95 : decode cX3_play 95 = .ok (.goto 24, 3) := by decide +kernel
theorem dX3_play_98 : decode cX3_play 98 = .ok (.aload_n 0, 1) := by decide +kernel
theorem dX3_play_99 : decode cX3_play 99 = .ok (.aload_n 1, 1) := by decide +kernel
theorem dX3_play_100 : decode cX3_play 100 = .ok (.aload_n 0, 1) := by decide +kernel
theorem dX3_play_101 : decode cX3_play 101 = .ok (.getfield 66, 3) := by decide +kernel
theorem dX3_play_104 : decode cX3_play 104 = .ok (.iload_n 2, 1) := by decide +kernel
theorem dX3_play_105 : decode cX3_play 105 = .ok (.ishr, 1) := by decide +kernel
theorem dX3_play_106 : decode cX3_play 106 = .ok (.iconst 1, 1) := by decide +kernel
theorem dX3_play_107 : decode cX3_play 107 = .ok (.iand, 1) := by decide +kernel
theorem dX3_play_108 : decode cX3_play 108 = .ok (.ifCond .eq 7, 3) := by decide +kernel
theorem dX3_play_111 : decode cX3_play 111 = .ok (.iconst 1, 1) := by decide +kernel
theorem dX3_play_112 : decode cX3_play 112 = .ok (.goto 4, 3) := by decide +kernel
theorem dX3_play_115 : decode cX3_play 115 = .ok (.iconst 0, 1) := by decide +kernel
theorem dX3_play_116 : decode cX3_play 116 = .ok (.invokevirtual 69, 3) := by decide +kernel
theorem dX3_play_119 : decode cX3_play 119 = .ok (.istore 4, 2) := by decide +kernel
theorem dX3_play_121 : decode cX3_play 121 = .ok (.aload_n 0, 1) := by decide +kernel
theorem dX3_play_122 : decode cX3_play 122 = .ok (.getfield 9, 3) := by decide +kernel
theorem dX3_play_125 : decode cX3_play 125 = .ok (.iload_n 2, 1) := by decide +kernel
theorem dX3_play_126 : decode cX3_play 126 = .ok (.aload_n 0, 1) := by decide +kernel
theorem dX3_play_127 : decode cX3_play 127 = .ok (.getfield 73, 3) := by decide +kernel
theorem dX3_play_130 : decode cX3_play 130 = .ok (.iastore, 1) := by decide +kernel
theorem dX3_play_131 : decode cX3_play 131 = .ok (.aload_n 0, 1) := by decide +kernel
theorem dX3_play_132 : decode cX3_play 132 = .ok (.getfield 15, 3) := by decide +kernel
theorem dX3_play_135 : decode cX3_play 135 = .ok (.iload_n 2, 1) := by decide +kernel
theorem dX3_play_136 : decode cX3_play 136 = .ok (.aload_n 0, 1) := by decide +kernel
theorem dX3_play_137 : decode cX3_play 137 = .ok (.getfield 76, 3) := by decide +kernel
theorem dX3_play_140 : decode cX3_play 140 = .ok (.iastore, 1) := by decide +kernel
theorem dX3_play_141 : decode cX3_play 141 = .ok (.aload_n 0, 1) := by decide +kernel
theorem dX3_play_142 : decode cX3_play 142 = .ok (.getfield 18, 3) := by decide +kernel
theorem dX3_play_145 : decode cX3_play 145 = .ok (.iload_n 2, 1) := by decide +kernel
theorem dX3_play_146 : decode cX3_play 146 = .ok (.iload 4, 2) := by decide +kernel
theorem dX3_play_148 : decode cX3_play 148 = .ok (.iastore, 1) := by decide +kernel
theorem dX3_play_149 : decode cX3_play 149 = .ok (.iinc 2 1, 3) := by decide +kernel
theorem dX3_play_152 : decode cX3_play 152 = .ok (.goto (-140), 3) := by decide +kernel
theorem dX3_play_155 : decode cX3_play 155 = .ok (.return_, 1) := by decide +kernel
theorem dX3_clear_0 : decode cX3_clear 0 = .ok (.aload_n 0, 1) := by decide +kernel
theorem dX3_clear_1 : decode cX3_clear 1 = .ok (.getfield 21, 3) := by decide +kernel
theorem dX3_clear_4 : decode cX3_clear 4 = .ok (.iconst 0, 1) := by decide +kernel
theorem dX3_clear_5 : decode cX3_clear 5 = .ok (.invokestatic 79, 3) := by decide +kernel
theorem dX3_clear_8 : decode cX3_clear 8 = .ok (.aload_n 0, 1) := by decide +kernel
theorem dX3_clear_9 : decode cX3_clear 9 = .ok (.getfield 24, 3) := by decide +kernel
theorem dX3_clear_12 : decode cX3_clear 12 = .ok (.iconst 0, 1) := by decide +kernel
theorem dX3_clear_13 : decode cX3_clear 13 = .ok (.invokestatic 79, 3) := by decide +kernel
theorem dX3_clear_16 : decode cX3_clear 16 = .ok (.aload_n 0, 1) := by decide +kernel
theorem dX3_clear_17 : decode cX3_clear 17 = .ok (.getfield 27, 3) := by decide +kernel
theorem dX3_clear_20 : decode cX3_clear 20 = .ok (.iconst 0, 1) := by decide +kernel
theorem dX3_clear_21 : decode cX3_clear 21 = .ok (.invokestatic 79, 3) := by decide +kernel
theorem dX3_clear_24 : decode cX3_clear 24 = .ok (.aload_n 0, 1) := by decide +kernel
theorem dX3_clear_25 : decode cX3_clear 25 = .ok (.getfield 30, 3) := by decide +kernel
theorem dX3_clear_28 : decode cX3_clear 28 = .ok (.iconst 0, 1) := by decide +kernel
theorem dX3_clear_29 : decode cX3_clear 29 = .ok (.invokestatic 79, 3) := by decide +kernel
theorem dX3_clear_32 : decode cX3_clear 32 = .ok (.aload_n 0, 1) := by decide +kernel
theorem dX3_clear_33 : decode cX3_clear 33 = .ok (.getfield 33, 3) := by decide +kernel
theorem dX3_clear_36 : decode cX3_clear 36 = .ok (.iconst 0, 1) := by decide +kernel
theorem dX3_clear_37 : decode cX3_clear 37 = .ok (.invokestatic 79, 3) := by decide +kernel
theorem dX3_clear_40 : decode cX3_clear 40 = .ok (.aload_n 0, 1) := by decide +kernel
theorem dX3_clear_41 : decode cX3_clear 41 = .ok (.iconst 0, 1) := by decide +kernel
theorem dX3_clear_42 : decode cX3_clear 42 = .ok (.putfield 85, 3) := by decide +kernel
theorem dX3_clear_45 : decode cX3_clear 45 = .ok (.aload_n 0, 1) := by decide +kernel
theorem dX3_clear_46 : decode cX3_clear 46 = .ok (.iconst 0, 1) := by decide +kernel
theorem dX3_clear_47 : decode cX3_clear 47 = .ok (.putfield 88, 3) := by decide +kernel
theorem dX3_clear_50 : decode cX3_clear 50 = .ok (.aload_n 0, 1) := by decide +kernel
theorem dX3_clear_51 : decode cX3_clear 51 = .ok (.iconst 0, 1) := by decide +kernel
theorem dX3_clear_52 : decode cX3_clear 52 = .ok (.putfield 91, 3) := by decide +kernel
theorem dX3_clear_55 : decode cX3_clear 55 = .ok (.aload_n 0, 1) := by decide +kernel
theorem dX3_clear_56 : decode cX3_clear 56 = .ok (.iconst 0, 1) := by decide +kernel
theorem dX3_clear_57 : decode cX3_clear 57 = .ok (.putfield 94, 3) := by decide +kernel
theorem dX3_clear_60 : decode cX3_clear 60 = .ok (.aload_n 0, 1) := by decide +kernel
theorem dX3_clear_61 : decode cX3_clear 61 = .ok (.iconst 0, 1) := by decide +kernel
theorem dX3_clear_62 : decode cX3_clear 62 = .ok (.putfield 97, 3) := by decide +kernel
theorem dX3_clear_65 : decode cX3_clear 65 = .ok (.aload_n 0, 1) := by decide +kernel
theorem dX3_clear_66 : decode cX3_clear 66 = .ok (.iconst 0, 1) := by decide +kernel
theorem dX3_clear_67 : decode cX3_clear 67 = .ok (.putfield 66, 3) := by decide +kernel
theorem dX3_clear_70 : decode cX3_clear 70 = .ok (.aload_n 0, 1) := by decide +kernel
theorem dX3_clear_71 : decode cX3_clear 71 = .ok (.iconst 0, 1) := by decide +kernel
theorem dX3_clear_72 : decode cX3_clear 72 = .ok (.putfield 63, 3) := by decide +kernel
theorem dX3_clear_75 : decode cX3_clear 75 = .ok (.aload_n 0, 1) := by decide +kernel
theorem dX3_clear_76 : decode cX3_clear 76 = .ok (.iconst 0, 1) := by decide +kernel
theorem dX3_clear_77 : decode cX3_clear 77 = .ok (.putfield 73, 3) := by decide +kernel
theorem dX3_clear_80 : decode cX3_clear 80 = .ok (.aload_n 0, 1) := by decide +kernel
theorem dX3_clear_81 : decode cX3_clear 81 = .ok (.aload_n 1, 1) := by decide +kernel
theorem dX3_clear_82 : decode cX3_clear 82 = .ok (.getfield 100, 3) := by decide +kernel
theorem dX3_clear_85 : decode cX3_clear 85 = .ok (.putfield 76, 3) := by decide +kernel
theorem dX3_clear_88 : decode cX3_clear 88 = .ok (.return_, 1) := by decide +kernel
theorem dX3_gatherEvents_0 : decode cX3_gatherEvents 0 = .ok (.iconst 0, 1) := by decide +kernel
theorem dX3_gatherEvents_1 : decode cX3_gatherEvents 1 = .ok (.istore_n 2, 1) := by decide +kernel
theorem dX3_gatherEvents_2 : decode cX3_gatherEvents 2 = .ok (.iload_n 2, 1) := by decide +kernel
theorem dX3_gatherEvents_3 : decode cX3_gatherEvents 3 = .ok (.aload_n 1, 1) := by decide +kernel
theorem dX3_gatherEvents_4 : decode cX3_gatherEvents 4 = .ok (.getfield 103, 3) := by decide +kernel
theorem dX3_gatherEvents_7 : decode cX3_gatherEvents 7 = .ok (.if_icmp .ge 36, 3) := by decide +kernel
theorem dX3_gatherEvents_10 : decode cX3_gatherEvents 10 = .ok (.aload_n 1, 1) := by decide +kernel
theorem dX3_gatherEvents_11 : decode cX3_gatherEvents 11 = .ok (.getfield 106, 3) := by decide +kernel
theorem dX3_gatherEvents_14 : decode cX3_gatherEvents 14 = .ok (.iload_n 2, 1) := by decide +kernel
theorem dX3_gatherEvents_15 : decode cX3_gatherEvents 15 = .ok (.ishr, 1) := by decide +kernel
theorem dX3_gatherEvents_16 : decode cX3_gatherEvents 16 = .ok (.iconst 1, 1) := by decide +kernel
theorem dX3_gatherEvents_17 : decode cX3_gatherEvents 17 = .ok (.iand, 1) := by decide +kernel
theorem dX3_gatherEvents_18 : decode cX3_gatherEvents 18 = .ok (.ifCond .ne 19, 3) := by decide +kernel
theorem dX3_gatherEvents_21 : decode cX3_gatherEvents 21 = .ok (.aload_n 0, 1) := by decide +kernel
theorem dX3_gatherEvents_22 : decode cX3_gatherEvents 22 = .ok (.aload_n 1, 1) := by decide +kernel
theorem dX3_gatherEvents_23 : decode cX3_gatherEvents 23 = .ok (.getfield 109, 3) := by decide +kernel
theorem dX3_gatherEvents_26 : decode cX3_gatherEvents 26 = .ok (.iload_n 2, 1) := by decide +kernel
theorem dX3_gatherEvents_27 : decode cX3_gatherEvents 27 = .ok (.iaload, 1) := by decide +kernel
theorem dX3_gatherEvents_28 : decode cX3_gatherEvents 28 = .ok (.aload_n 1, 1) := by decide +kernel
theorem dX3_gatherEvents_29 : decode cX3_gatherEvents 29 = .ok (.getfield 112, 3) := by decide +kernel
theorem dX3_gatherEvents_32 : decode cX3_gatherEvents 32 = .ok (.iload_n 2, 1) := by decide +kernel
theorem dX3_gatherEvents_33 : decode cX3_gatherEvents 33 = .ok (.iaload, 1) := by decide +kernel
theorem dX3_gatherEvents_34 : decode cX3_gatherEvents 34 = .ok (.invokevirtual 115, 3) := by decide +kernel
theorem dX3_gatherEvents_37 : decode cX3_gatherEvents 37 = .ok (.iinc 2 1, 3) := by decide +kernel
theorem dX3_gatherEvents_40 : decode cX3_gatherEvents 40 = .ok (.goto (-38), 3) := by decide +kernel
theorem dX3_gatherEvents_43 : decode cX3_gatherEvents 43 = .ok (.aload_n 1, 1) := by decide +kernel
theorem dX3_gatherEvents_44 : decode cX3_gatherEvents 44 = .ok (.getfield 119, 3) := by decide +kernel
theorem dX3_gatherEvents_47 : decode cX3_gatherEvents 47 = .ok (.iconst (-1), 1) := by decide +kernel
theorem dX3_gatherEvents_48 : decode cX3_gatherEvents 48 = .ok (.if_icmp .eq 12, 3) := by decide +kernel
theorem dX3_gatherEvents_51 : decode cX3_gatherEvents 51 = .ok (.aload_n 0, 1) := by decide +kernel
theorem dX3_gatherEvents_52 : decode cX3_gatherEvents 52 = .ok (.iconst 2, 1) := by decide +kernel
theorem dX3_gatherEvents_53 : decode cX3_gatherEvents 53 = .ok (.aload_n 1, 1) := by decide +kernel
theorem dX3_gatherEvents_54 : decode cX3_gatherEvents 54 = .ok (.getfield 119, 3) := by decide +kernel
theorem dX3_gatherEvents_57 : decode cX3_gatherEvents 57 = .ok (.invokevirtual 115, 3) := by decide +kernel
theorem dX3_gatherEvents_60 : decode cX3_gatherEvents 60 = .ok (.return_, 1) := by decide +kernel
theorem dX3_gather_0 : decode cX3_gather 0 = .ok (.iload_n 1, 1) := by decide +kernel
theorem dX3_gather_1 : decode cX3_gather 1 = .ok (.ifCond .ne 16, 3) := by decide +kernel
theorem dX3_gather_4 : decode cX3_gather 4 = .ok (.aload_n 0, 1) := by decide +kernel
theorem dX3_gather_5 : decode cX3_gather 5 = .ok (.getfield 33, 3) := by decide +kernel
theorem dX3_gather_8 : decode cX3_gather 8 = .ok (.iload_n 2, 1) := by decide +kernel
theorem dX3_gather_9 : decode cX3_gather 9 = .ok (.dup2, 1) := by decide +kernel
theorem dX3_gather_10 : decode cX3_gather 10 = .ok (.iaload, 1) := by decide +kernel
theorem dX3_gather_11 : decode cX3_gather 11 = .ok (.iconst 1, 1) := by decide +kernel
theorem dX3_gather_12 : decode cX3_gather 12 = .ok (.iadd, 1) := by decide +kernel
theorem dX3_gather_13 : decode cX3_gather 13 = .ok (.iastore, 1) := by decide +kernel
theorem dX3_gather_14 : decode cX3_gather 14 = .ok (.goto 35, 3) := by decide +kernel
theorem dX3_gather_17 : decode cX3_gather 17 = .ok (.iload_n 1, 1) := by decide +kernel
theorem dX3_gather_18 : decode cX3_gather 18 = .ok (.iconst 1, 1) := by decide +kernel
theorem dX3_gather_19 : decode cX3_gather 19 = .ok (.if_icmp .ne 18, 3) := by decide +kernel
theorem dX3_gather_22 : decode cX3_gather 22 = .ok (.aload_n 0, 1) := by decide +kernel
theorem dX3_gather_23 : decode cX3_gather 23 = .ok (.dup, 1) := by decide +kernel
theorem dX3_gather_24 : decode cX3_gather 24 = .ok (.getfield 66, 3) := by decide +kernel
theorem dX3_gather_27 : decode cX3_gather 27 = .ok (.iconst 1, 1) := by decide +kernel
theorem dX3_gather_28 : decode cX3_gather 28 = .ok (.iload_n 2, 1) := by decide +kernel
theorem dX3_gather_29 : decode cX3_gather 29 = .ok (.ishl, 1) := by decide +kernel
theorem dX3_gather_30 : decode cX3_gather 30 = .ok (.ior, 1) := by decide +kernel
theorem dX3_gather_31 : decode cX3_gather 31 = .ok (.putfield 66, 3) := by decide +kernel
theorem dX3_gather_34 : decode cX3_gather 34 = .ok (.goto 15, 3) := by decide +kernel
theorem dX3_gather_37 : decode cX3_gather 37 = .ok (.aload_n 0, 1) := by decide +kernel
theorem dX3_gather_38 : decode cX3_gather 38 = .ok (.dup, 1) := by decide +kernel
theorem dX3_gather_39 : decode cX3_gather 39 = .ok (.getfield 63, 3) := by decide +kernel
theorem dX3_gather_42 : decode cX3_gather 42 = .ok (.iconst 1, 1) := by decide +kernel
theorem dX3_gather_43 : decode cX3_gather 43 = .ok (.iload_n 2, 1) := by decide +kernel
theorem dX3_gather_44 : decode cX3_gather 44 = .ok (.ishl, 1) := by decide +kernel
theorem dX3_gather_45 : decode cX3_gather 45 = .ok (.ior, 1) := by decide +kernel
theorem dX3_gather_46 : decode cX3_gather 46 = .ok (.putfield 63, 3) := by decide +kernel
theorem dX3_gather_49 : decode cX3_gather 49 = .ok (.return_, 1) := by decide +kernel
theorem dX3_steal_0 : decode cX3_steal 0 = .ok (.aload_n 0, 1) := by decide +kernel
theorem dX3_steal_1 : decode cX3_steal 1 = .ok (.getfield 76, 3) := by decide +kernel
theorem dX3_steal_4 : decode cX3_steal 4 = .ok (.iconst 3, 1) := by decide +kernel
theorem dX3_steal_5 : decode cX3_steal 5 = .ok (.iload_n 1, 1) := by decide +kernel
theorem dX3_steal_6 : decode cX3_steal 6 = .ok (.imul, 1) := by decide +kernel
theorem dX3_steal_7 : decode cX3_steal 7 = .ok (.invokestatic 122, 3) := by decide +kernel
theorem dX3_steal_10 : decode cX3_steal 10 = .ok (.istore_n 2, 1) := by decide +kernel
theorem dX3_steal_11 : decode cX3_steal 11 = .ok (.aload_n 0, 1) := by decide +kernel
theorem dX3_steal_12 : decode cX3_steal 12 = .ok (.dup, 1) := by decide +kernel
theorem dX3_steal_13 : decode cX3_steal 13 = .ok (.getfield 76, 3) := by decide +kernel
theorem dX3_steal_16 : decode cX3_steal 16 = .ok (.iload_n 2, 1) := by decide +kernel
theorem dX3_steal_17 : decode cX3_steal 17 = .ok (.isub, 1) := by decide +kernel
theorem dX3_steal_18 : decode cX3_steal 18 = .ok (.putfield 76, 3) := by decide +kernel
theorem dX3_steal_21 : decode cX3_steal 21 = .ok (.aload_n 0, 1) := by decide +kernel
theorem dX3_steal_22 : decode cX3_steal 22 = .ok (.dup, 1) := by decide +kernel
theorem dX3_steal_23 : decode cX3_steal 23 = .ok (.getfield 97, 3) := by decide +kernel
theorem dX3_steal_26 : decode cX3_steal 26 = .ok (.iload_n 2, 1) := by decide +kernel
theorem dX3_steal_27 : decode cX3_steal 27 = .ok (.iadd, 1) := by decide +kernel
theorem dX3_steal_28 : decode cX3_steal 28 = .ok (.putfield 97, 3) := by decide +kernel
theorem dX3_steal_31 : decode cX3_steal 31 = .ok (.return_, 1) := by decide +kernel
theorem dX3_soundOne_0 : decode cX3_soundOne 0 = .ok (.iload_n 3, 1) := by decide +kernel
theorem dX3_soundOne_1 : decode cX3_soundOne 1 = .ok (.aload_n 1, 1) := by decide +kernel
theorem dX3_soundOne_2 : decode cX3_soundOne 2 = .ok (.getfield 128, 3) := by decide +kernel
theorem dX3_soundOne_5 : decode cX3_soundOne 5 = .ok (.if_icmp .lt 4, 3) := by decide +kernel
theorem dX3_soundOne_8 : decode cX3_soundOne 8 = .ok (.return_, 1) := by decide +kernel
theorem dX3_soundOne_9 : decode cX3_soundOne 9 = .ok (.aload_n 1, 1) := by decide +kernel
theorem dX3_soundOne_10 : decode cX3_soundOne 10 = .ok (.getfield 131, 3) := by decide +kernel
theorem dX3_soundOne_13 : decode cX3_soundOne 13 = .ok (.iload_n 3, 1) := by decide +kernel
theorem dX3_soundOne_14 : decode cX3_soundOne 14 = .ok (.iaload, 1) := by decide +kernel
theorem dX3_soundOne_15 : decode cX3_soundOne 15 = .ok (.istore 4, 2) := by decide +kernel
theorem dX3_soundOne_17 : decode cX3_soundOne 17 = .ok (.aload_n 1, 1) := by decide +kernel
theorem dX3_soundOne_18 : decode cX3_soundOne 18 = .ok (.getfield 134, 3) := by decide +kernel
theorem dX3_soundOne_21 : decode cX3_soundOne 21 = .ok (.iload_n 3, 1) := by decide +kernel
theorem dX3_soundOne_22 : decode cX3_soundOne 22 = .ok (.iaload, 1) := by decide +kernel
theorem dX3_soundOne_23 : decode cX3_soundOne 23 = .ok (.aload_n 0, 1) := by decide +kernel
theorem dX3_soundOne_24 : decode cX3_soundOne 24 = .ok (.getfield 73, 3) := by decide +kernel
theorem dX3_soundOne_27 : decode cX3_soundOne 27 = .ok (.isub, 1) := by decide +kernel
theorem dX3_soundOne_28 : decode cX3_soundOne 28 = .ok (.invokestatic 137, 3) := by decide +kernel
theorem dX3_soundOne_31 : decode cX3_soundOne 31 = .ok (.istore 5, 2) := by decide +kernel
theorem dX3_soundOne_33 : decode cX3_soundOne 33 = .ok (.iload 4, 2) := by decide +kernel
theorem dX3_soundOne_35 : decode cX3_soundOne 35 = .ok (.iconst 2, 1) := by decide +kernel
theorem dX3_soundOne_36 : decode cX3_soundOne 36 = .ok (.if_icmp .ne 7, 3) := by decide +kernel
theorem dX3_soundOne_39 : decode cX3_soundOne 39 = .ok (.iconst 1, 1) := by decide +kernel
theorem dX3_soundOne_40 : decode cX3_soundOne 40 = .ok (.goto 4, 3) := by decide +kernel
theorem dX3_soundOne_43 : decode cX3_soundOne 43 = .ok (.iconst 0, 1) := by decide +kernel
theorem dX3_soundOne_44 : decode cX3_soundOne 44 = .ok (.istore 6, 2) := by decide +kernel
theorem dX3_soundOne_46 : decode cX3_soundOne 46 = .ok (.iload 4, 2) := by decide +kernel
theorem dX3_soundOne_48 : decode cX3_soundOne 48 = .ok (.ifCond .ne 7, 3) := by decide +kernel
theorem dX3_soundOne_51 : decode cX3_soundOne 51 = .ok (.iconst 4, 1) := by decide +kernel
theorem dX3_soundOne_52 : decode cX3_soundOne 52 = .ok (.goto 14, 3) := by decide +kernel
theorem dX3_soundOne_55 : decode cX3_soundOne 55 = .ok (.iload 4, 2) := by decide +kernel
theorem dX3_soundOne_57 : decode cX3_soundOne 57 = .ok (.iconst 1, 1) := by decide +kernel
theorem dX3_soundOne_58 : decode cX3_soundOne 58 = .ok (.if_icmp .ne 7, 3) := by decide +kernel
theorem dX3_soundOne_61 : decode cX3_soundOne 61 = .ok (.iconst 2, 1) := by decide +kernel
theorem dX3_soundOne_62 : decode cX3_soundOne 62 = .ok (.goto 4, 3) := by decide +kernel
theorem dX3_soundOne_65 : decode cX3_soundOne 65 = .ok (.iconst 1, 1) := by decide +kernel
theorem dX3_soundOne_66 : decode cX3_soundOne 66 = .ok (.istore 7, 2) := by decide +kernel
theorem dX3_soundOne_68 : decode cX3_soundOne 68 = .ok (.iload 5, 2) := by decide +kernel
theorem dX3_soundOne_70 : decode cX3_soundOne 70 = .ok (.iload 6, 2) := by decide +kernel
theorem dX3_soundOne_72 : decode cX3_soundOne 72 = .ok (.if_icmp .gt 12, 3) := by decide +kernel
theorem dX3_soundOne_75 : decode cX3_soundOne 75 = .ok (.aload_n 0, 1) := by decide +kernel
theorem dX3_soundOne_76 : decode cX3_soundOne 76 = .ok (.getfield 76, 3) := by decide +kernel
theorem dX3_soundOne_79 : decode cX3_soundOne 79 = .ok (.iload 7, 2) := by decide +kernel
theorem dX3_soundOne_81 : decode cX3_soundOne 81 = .ok (.if_icmp .ge 14, 3) := by decide +kernel
theorem dX3_soundOne_84 : decode cX3_soundOne 84 = .ok (.aload_n 0, 1) := by decide +kernel
theorem dX3_soundOne_85 : decode cX3_soundOne 85 = .ok (.dup, 1) := by decide +kernel
theorem dX3_soundOne_86 : decode cX3_soundOne 86 = .ok (.getfield 91, 3) := by decide +kernel
theorem dX3_soundOne_89 : decode cX3_soundOne 89 = .ok (.iconst 1, 1) := by decide +kernel
theorem dX3_soundOne_90 : decode cX3_soundOne 90 = .ok (.iadd, 1) := by decide +kernel
theorem dX3_soundOne_91 : decode cX3_soundOne 91 = .ok (.putfield 91, 3) := by decide +kernel
theorem dX3_soundOne_94 : decode cX3_soundOne 94 = .ok (.return_, 1) := by decide +kernel
theorem dX3_soundOne_95 : decode cX3_soundOne 95 = .ok (.iload 7, 2) := by decide +kernel
theorem dX3_soundOne_97 : decode cX3_soundOne 97 = .ok (.iload 7, 2) := by decide +kernel
theorem dX3_soundOne_99 : decode cX3_soundOne 99 = .ok (.iconst 2, 1) := by decide +kernel
theorem dX3_soundOne_100 : decode cX3_soundOne 100 = .ok (.idiv, 1) := by decide +kernel
theorem dX3_soundOne_101 : decode cX3_soundOne 101 = .ok (.isub, 1) := by decide +kernel
theorem dX3_soundOne_102 : decode cX3_soundOne 102 = .ok (.istore 8, 2) := by decide +kernel
theorem dX3_soundOne_104 : decode cX3_soundOne 104 = .ok (.aload_n 0, 1) := by decide +kernel
theorem dX3_soundOne_105 : decode cX3_soundOne 105 = .ok (.dup, 1) := by decide +kernel
theorem dX3_soundOne_106 : decode cX3_soundOne 106 = .ok (.getfield 76, 3) := by decide +kernel
theorem dX3_soundOne_109 : decode cX3_soundOne 109 = .ok (.iload 8, 2) := by decide +kernel
theorem dX3_soundOne_111 : decode cX3_soundOne 111 = .ok (.isub, 1) := by decide +kernel
theorem dX3_soundOne_112 : decode cX3_soundOne 112 = .ok (.putfield 76, 3) := by decide +kernel
theorem dX3_soundOne_115 : decode cX3_soundOne 115 = .ok (.aload_n 0, 1) := by decide +kernel
theorem dX3_soundOne_116 : decode cX3_soundOne 116 = .ok (.getfield 21, 3) := by decide +kernel
theorem dX3_soundOne_119 : decode cX3_soundOne 119 = .ok (.iload_n 2, 1) := by decide +kernel
theorem dX3_soundOne_120 : decode cX3_soundOne 120 = .ok (.aload_n 0, 1) := by decide +kernel
theorem dX3_soundOne_121 : decode cX3_soundOne 121 = .ok (.getfield 76, 3) := by decide +kernel
theorem dX3_soundOne_124 : decode cX3_soundOne 124 = .ok (.bipush 10, 2) := by decide +kernel
theorem dX3_soundOne_126 : decode cX3_soundOne 126 = .ok (.if_icmp .ge 7, 3) := by decide +kernel
theorem dX3_soundOne_129 : decode cX3_soundOne 129 = .ok (.iconst 1, 1) := by decide +kernel
theorem dX3_soundOne_130 : decode cX3_soundOne 130 = .ok (.goto 4, 3) := by decide +kernel
theorem dX3_soundOne_133 : decode cX3_soundOne 133 = .ok (.iconst 2, 1) := by decide +kernel
theorem dX3_soundOne_134 : decode cX3_soundOne 134 = .ok (.iastore, 1) := by decide +kernel
theorem dX3_soundOne_135 : decode cX3_soundOne 135 = .ok (.aload_n 0, 1) := by decide +kernel
theorem dX3_soundOne_136 : decode cX3_soundOne 136 = .ok (.getfield 24, 3) := by decide +kernel
theorem dX3_soundOne_139 : decode cX3_soundOne 139 = .ok (.iload_n 3, 1) := by decide +kernel
theorem dX3_soundOne_140 : decode cX3_soundOne 140 = .ok (.dup2, 1) := by decide +kernel
theorem dX3_soundOne_141 : decode cX3_soundOne 141 = .ok (.iaload, 1) := by decide +kernel
theorem dX3_soundOne_142 : decode cX3_soundOne 142 = .ok (.iconst 1, 1) := by decide +kernel
theorem dX3_soundOne_143 : decode cX3_soundOne 143 = .ok (.iadd, 1) := by decide +kernel
theorem dX3_soundOne_144 : decode cX3_soundOne 144 = .ok (.iastore, 1) := by decide +kernel
theorem dX3_soundOne_145 : decode cX3_soundOne 145 = .ok (.aload_n 0, 1) := by decide +kernel
theorem dX3_soundOne_146 : decode cX3_soundOne 146 = .ok (.getfield 27, 3) := by decide +kernel
theorem dX3_soundOne_149 : decode cX3_soundOne 149 = .ok (.iload_n 3, 1) := by decide +kernel
theorem dX3_soundOne_150 : decode cX3_soundOne 150 = .ok (.dup2, 1) := by decide +kernel
theorem dX3_soundOne_151 : decode cX3_soundOne 151 = .ok (.iaload, 1) := by decide +kernel
theorem dX3_soundOne_152 : decode cX3_soundOne 152 = .ok (.iload 8, 2) := by decide +kernel
theorem dX3_soundOne_154 : decode cX3_soundOne 154 = .ok (.iadd, 1) := by decide +kernel
theorem dX3_soundOne_155 : decode cX3_soundOne 155 = .ok (.iastore, 1) := by decide +kernel
theorem dX3_soundOne_156 : decode cX3_soundOne 156 = .ok (.aload_n 0, 1) := by decide +kernel
theorem dX3_soundOne_157 : decode cX3_soundOne 157 = .ok (.dup, 1) := by decide +kernel
theorem dX3_soundOne_158 : decode cX3_soundOne 158 = .ok (.getfield 85, 3) := by decide +kernel
theorem dX3_soundOne_161 : decode cX3_soundOne 161 = .ok (.iconst 1, 1) := by decide +kernel
theorem dX3_soundOne_162 : decode cX3_soundOne 162 = .ok (.iadd, 1) := by decide +kernel
theorem dX3_soundOne_163 : decode cX3_soundOne 163 = .ok (.putfield 85, 3) := by decide +kernel
theorem dX3_soundOne_166 : decode cX3_soundOne 166 = .ok (.aload_n 0, 1) := by decide +kernel
theorem dX3_soundOne_167 : decode cX3_soundOne 167 = .ok (.dup, 1) := by decide +kernel
theorem dX3_soundOne_168 : decode cX3_soundOne 168 = .ok (.getfield 88, 3) := by decide +kernel
theorem dX3_soundOne_171 : decode cX3_soundOne 171 = .ok (.iconst 1, 1) := by decide +kernel
theorem dX3_soundOne_172 : decode cX3_soundOne 172 = .ok (.iload_n 2, 1) := by decide +kernel
theorem dX3_soundOne_173 : decode cX3_soundOne 173 = .ok (.ishl, 1) := by decide +kernel
theorem dX3_soundOne_174 : decode cX3_soundOne 174 = .ok (.ior, 1) := by decide +kernel
theorem dX3_soundOne_175 : decode cX3_soundOne 175 = .ok (.putfield 88, 3) := by decide +kernel
theorem dX3_soundOne_178 : decode cX3_soundOne 178 = .ok (.return_, 1) := by decide +kernel
theorem dX3_passOn_0 : decode cX3_passOn 0 = .ok (.aload_n 1, 1) := by decide +kernel
theorem dX3_passOn_1 : decode cX3_passOn 1 = .ok (.getfield 128, 3) := by decide +kernel
theorem dX3_passOn_4 : decode cX3_passOn 4 = .ok (.ifCond .ne 5, 3) := by decide +kernel
theorem dX3_passOn_7 : decode cX3_passOn 7 = .ok (.iconst 0, 1) := by decide +kernel
theorem dX3_passOn_8 : decode cX3_passOn 8 = .ok (.ireturn, 1) := by decide +kernel
theorem dX3_passOn_9 : decode cX3_passOn 9 = .ok (.aload_n 1, 1) := by decide +kernel
theorem dX3_passOn_10 : decode cX3_passOn 10 = .ok (.getfield 141, 3) := by decide +kernel
theorem dX3_passOn_13 : decode cX3_passOn 13 = .ok (.aload_n 0, 1) := by decide +kernel
theorem dX3_passOn_14 : decode cX3_passOn 14 = .ok (.getfield 73, 3) := by decide +kernel
theorem dX3_passOn_17 : decode cX3_passOn 17 = .ok (.iaload, 1) := by decide +kernel
theorem dX3_passOn_18 : decode cX3_passOn 18 = .ok (.istore_n 3, 1) := by decide +kernel
theorem dX3_passOn_19 : decode cX3_passOn 19 = .ok (.aload_n 0, 1) := by decide +kernel
theorem dX3_passOn_20 : decode cX3_passOn 20 = .ok (.getfield 73, 3) := by decide +kernel
theorem dX3_passOn_23 : decode cX3_passOn 23 = .ok (.aload_n 1, 1) := by decide +kernel
theorem dX3_passOn_24 : decode cX3_passOn 24 = .ok (.getfield 128, 3) := by decide +kernel
theorem dX3_passOn_27 : decode cX3_passOn 27 = .ok (.iconst 1, 1) := by decide +kernel
theorem dX3_passOn_28 : decode cX3_passOn 28 = .ok (.isub, 1) := by decide +kernel
theorem dX3_passOn_29 : decode cX3_passOn 29 = .ok (.if_icmp .ne 7, 3) := by decide +kernel
theorem dX3_passOn_32 : decode cX3_passOn 32 = .ok (.iconst 1, 1) := by decide +kernel
theorem dX3_passOn_33 : decode cX3_passOn 33 = .ok (.goto 4, 3) := by decide +kernel
theorem dX3_passOn_36 : decode cX3_passOn 36 = .ok (.iconst 0, 1) := by decide +kernel
theorem dX3_passOn_37 : decode cX3_passOn 37 = .ok (.istore 4, 2) := by decide +kernel
theorem dX3_passOn_39 : decode cX3_passOn 39 = .ok (.aload_n 1, 1) := by decide +kernel
theorem dX3_passOn_40 : decode cX3_passOn 40 = .ok (.getfield 144, 3) := by decide +kernel
theorem dX3_passOn_43 : decode cX3_passOn 43 = .ok (.iload_n 3, 1) := by decide +kernel
theorem dX3_passOn_44 : decode cX3_passOn 44 = .ok (.iaload, 1) := by decide +kernel
theorem dX3_passOn_45 : decode cX3_passOn 45 = .ok (.iload 4, 2) := by decide +kernel
theorem dX3_passOn_47 : decode cX3_passOn 47 = .ok (.ifCond .eq 7, 3) := by decide +kernel
theorem dX3_passOn_50 : decode cX3_passOn 50 = .ok (.iconst 2, 1) := by decide +kernel
theorem dX3_passOn_51 : decode cX3_passOn 51 = .ok (.goto 4, 3) := by decide +kernel
theorem dX3_passOn_54 : decode cX3_passOn 54 = .ok (.iconst 0, 1) := by decide +kernel
theorem dX3_passOn_55 : decode cX3_passOn 55 = .ok (.iadd, 1) := by decide +kernel
theorem dX3_passOn_56 : decode cX3_passOn 56 = .ok (.istore 5, 2) := by decide +kernel
theorem dX3_passOn_58 : decode cX3_passOn 58 = .ok (.aload_n 0, 1) := by decide +kernel
theorem dX3_passOn_59 : decode cX3_passOn 59 = .ok (.getfield 76, 3) := by decide +kernel
theorem dX3_passOn_62 : decode cX3_passOn 62 = .ok (.iload_n 2, 1) := by decide +kernel
theorem dX3_passOn_63 : decode cX3_passOn 63 = .ok (.ifCond .eq 10, 3) := by decide +kernel
theorem dX3_passOn_66 : decode cX3_passOn 66 = .ok (.iconst 2, 1) := by decide +kernel
theorem dX3_passOn_67 : decode cX3_passOn 67 = .ok (.iload 5, 2) := by decide +kernel
theorem dX3_passOn_69 : decode cX3_passOn 69 = .ok (.imul, 1) := by decide +kernel
theorem dX3_passOn_70 : decode cX3_passOn 70 = .ok (.goto 5, 3) := by decide +kernel
theorem dX3_passOn_73 : decode cX3_passOn 73 = .ok (.iload 5, 2) := by decide +kernel
theorem dX3_passOn_75 : decode cX3_passOn 75 = .ok (.invokestatic 122, 3) := by decide +kernel
theorem dX3_passOn_78 : decode cX3_passOn 78 = .ok (.istore 6, 2) := by decide +kernel
theorem dX3_passOn_80 : decode cX3_passOn 80 = .ok (.aload_n 0, 1) := by decide +kernel
theorem dX3_passOn_81 : decode cX3_passOn 81 = .ok (.dup, 1) := by decide +kernel
theorem dX3_passOn_82 : decode cX3_passOn 82 = .ok (.getfield 76, 3) := by decide +kernel
theorem dX3_passOn_85 : decode cX3_passOn 85 = .ok (.iload 6, 2) := by decide +kernel
theorem dX3_passOn_87 : decode cX3_passOn 87 = .ok (.isub, 1) := by decide +kernel
theorem dX3_passOn_88 : decode cX3_passOn 88 = .ok (.putfield 76, 3) := by decide +kernel
theorem dX3_passOn_91 : decode cX3_passOn 91 = .ok (.aload_n 0, 1) := by decide +kernel
theorem dX3_passOn_92 : decode cX3_passOn 92 = .ok (.getfield 30, 3) := by decide +kernel
theorem dX3_passOn_95 : decode cX3_passOn 95 = .ok (.iload_n 3, 1) := by decide +kernel
theorem dX3_passOn_96 : decode cX3_passOn 96 = .ok (.dup2, 1) := by decide +kernel
theorem dX3_passOn_97 : decode cX3_passOn 97 = .ok (.iaload, 1) := by decide +kernel
theorem dX3_passOn_98 : decode cX3_passOn 98 = .ok (.iload 6, 2) := by decide +kernel
theorem dX3_passOn_100 : decode cX3_passOn 100 = .ok (.iadd, 1) := by decide +kernel
theorem dX3_passOn_101 : decode cX3_passOn 101 = .ok (.iastore, 1) := by decide +kernel
theorem dX3_passOn_102 : decode cX3_passOn 102 = .ok (.aload_n 0, 1) := by decide +kernel
theorem dX3_passOn_103 : decode cX3_passOn 103 = .ok (.dup, 1) := by decide +kernel
theorem dX3_passOn_104 : decode cX3_passOn 104 = .ok (.getfield 94, 3) := by decide +kernel
theorem dX3_passOn_107 : decode cX3_passOn 107 = .ok (.iload 6, 2) := by decide +kernel
theorem dX3_passOn_109 : decode cX3_passOn 109 = .ok (.iadd, 1) := by decide +kernel
theorem dX3_passOn_110 : decode cX3_passOn 110 = .ok (.putfield 94, 3) := by decide +kernel
theorem dX3_passOn_113 : decode cX3_passOn 113 = .ok (.aload_n 0, 1) := by decide +kernel
theorem dX3_passOn_114 : decode cX3_passOn 114 = .ok (.iload 4, 2) := by decide +kernel
theorem dX3_passOn_116 : decode cX3_passOn 116 = .ok (.ifCond .eq 7, 3) := by decide +kernel
theorem dX3_passOn_119 : decode cX3_passOn 119 = .ok (.iconst 0, 1) := by decide +kernel
theorem dX3_passOn_120 : decode cX3_passOn 120 = .ok (.goto 9, 3) := by decide +kernel
theorem dX3_passOn_123 : decode cX3_passOn 123 = .ok (.aload_n 0, 1) := by decide +kernel
theorem dX3_passOn_124 : decode cX3_passOn 124 = .ok (.getfield 73, 3) := by decide +kernel
theorem dX3_passOn_127 : decode cX3_passOn 127 = .ok (.iconst 1, 1) := by decide +kernel
theorem dX3_passOn_128 : decode cX3_passOn 128 = .ok (.iadd, 1) := by decide +kernel
theorem dX3_passOn_129 : decode cX3_passOn 129 = .ok (.putfield 73, 3) := by decide +kernel
theorem dX3_passOn_132 : decode cX3_passOn 132 = .ok (.iload 6, 2) := by decide +kernel
theorem dX3_passOn_134 : decode cX3_passOn 134 = .ok (.ireturn, 1) := by decide +kernel
theorem dX4_init_0 : decode cX4_init 0 = .ok (.aload_n 0, 1) := by decide +kernel
theorem dX4_init_1 : decode cX4_init 1 = .ok (.invokespecial 3, 3) := by decide +kernel
theorem dX4_init_4 : decode cX4_init 4 = .ok (.aload_n 0, 1) := by decide +kernel
theorem dX4_init_5 : decode cX4_init 5 = .ok (.iconst 1, 1) := by decide +kernel
theorem dX4_init_6 : decode cX4_init 6 = .ok (.putfield 9, 3) := by decide +kernel
theorem dX4_init_9 : decode cX4_init 9 = .ok (.aload_n 0, 1) := by decide +kernel
theorem dX4_init_10 : decode cX4_init 10 = .ok (.iconst 0, 1) := by decide +kernel
theorem dX4_init_11 : decode cX4_init 11 = .ok (.putfield 15, 3) := by decide +kernel
theorem dX4_init_14 : decode cX4_init 14 = .ok (.aload_n 0, 1) := by decide +kernel
theorem dX4_init_15 : decode cX4_init 15 = .ok (.iconst 0, 1) := by decide +kernel
theorem dX4_init_16 : decode cX4_init 16 = .ok (.putfield 19, 3) := by decide +kernel
theorem dX4_init_19 : decode cX4_init 19 = .ok (.aload_n 0, 1) := by decide +kernel
theorem dX4_init_20 : decode cX4_init 20 = .ok (.bipush 60, 2) := by decide +kernel
theorem dX4_init_22 : decode cX4_init 22 = .ok (.newarray .int, 2) := by decide +kernel
theorem dX4_init_24 : decode cX4_init 24 = .ok (.putfield 22, 3) := by decide +kernel
theorem dX4_init_27 : decode cX4_init 27 = .ok (.return_, 1) := by decide +kernel
theorem dX4_renew_0 : decode cX4_renew 0 = .ok (.aload_n 0, 1) := by decide +kernel
theorem dX4_renew_1 : decode cX4_renew 1 = .ok (.iconst 0, 1) := by decide +kernel
theorem dX4_renew_2 : decode cX4_renew 2 = .ok (.putfield 9, 3) := by decide +kernel
theorem dX4_renew_5 : decode cX4_renew 5 = .ok (.aload_n 0, 1) := by decide +kernel
theorem dX4_renew_6 : decode cX4_renew 6 = .ok (.iload_n 1, 1) := by decide +kernel
theorem dX4_renew_7 : decode cX4_renew 7 = .ok (.putfield 15, 3) := by decide +kernel
theorem dX4_renew_10 : decode cX4_renew 10 = .ok (.aload_n 0, 1) := by decide +kernel
theorem dX4_renew_11 : decode cX4_renew 11 = .ok (.iload_n 2, 1) := by decide +kernel
theorem dX4_renew_12 : decode cX4_renew 12 = .ok (.putfield 19, 3) := by decide +kernel
theorem dX4_renew_15 : decode cX4_renew 15 = .ok (.aload_n 0, 1) := by decide +kernel
theorem dX4_renew_16 : decode cX4_renew 16 = .ok (.getfield 22, 3) := by decide +kernel
theorem dX4_renew_19 : decode cX4_renew 19 = .ok (.iconst 0, 1) := by decide +kernel
theorem dX4_renew_20 : decode cX4_renew 20 = .ok (.invokestatic 26, 3) := by decide +kernel
theorem dX4_renew_23 : decode cX4_renew 23 = .ok (.return_, 1) := by decide +kernel
theorem dX4_findingAt_0 : decode cX4_findingAt 0 = .ok (.aload_n 0, 1) := by decide +kernel
theorem dX4_findingAt_1 : decode cX4_findingAt 1 = .ok (.getfield 9, 3) := by decide +kernel
theorem dX4_findingAt_4 : decode cX4_findingAt 4 = .ok (.ifCond .eq 5, 3) := by decide +kernel
theorem dX4_findingAt_7 : decode cX4_findingAt 7 = .ok (.iconst 1, 1) := by decide +kernel
theorem dX4_findingAt_8 : decode cX4_findingAt 8 = .ok (.ireturn, 1) := by decide +kernel
theorem dX4_findingAt_9 : decode cX4_findingAt 9 = .ok (.iload_n 1, 1) := by decide +kernel
theorem dX4_findingAt_10 : decode cX4_findingAt 10 = .ok (.aload_n 0, 1) := by decide +kernel
theorem dX4_findingAt_11 : decode cX4_findingAt 11 = .ok (.getfield 15, 3) := by decide +kernel
theorem dX4_findingAt_14 : decode cX4_findingAt 14 = .ok (.if_icmp .eq 5, 3) := by decide +kernel
theorem dX4_findingAt_17 : decode cX4_findingAt 17 = .ok (.iconst 3, 1) := by decide +kernel
theorem dX4_findingAt_18 : decode cX4_findingAt 18 = .ok (.ireturn, 1) := by decide +kernel
theorem dX4_findingAt_19 : decode cX4_findingAt 19 = .ok (.iload_n 2, 1) := by decide +kernel
theorem dX4_findingAt_20 : decode cX4_findingAt 20 = .ok (.ifCond .lt 11, 3) := by decide +kernel
theorem dX4_findingAt_23 : decode cX4_findingAt 23 = .ok (.iload_n 2, 1) := by decide +kernel
theorem dX4_findingAt_24 : decode cX4_findingAt 24 = .ok (.aload_n 0, 1) := by decide +kernel
theorem dX4_findingAt_25 : decode cX4_findingAt 25 = .ok (.getfield 19, 3) := by decide +kernel
theorem dX4_findingAt_28 : decode cX4_findingAt 28 = .ok (.if_icmp .lt 7, 3) := by decide +kernel
theorem dX4_findingAt_31 : decode cX4_findingAt 31 = .ok (.iconst 2, 1) := by decide +kernel
theorem dX4_findingAt_32 : decode cX4_findingAt 32 = .ok (.goto 4, 3) := by decide +kernel
theorem dX4_findingAt_35 : decode cX4_findingAt 35 = .ok (.iconst 0, 1) := by decide +kernel
theorem dX4_findingAt_36 : decode cX4_findingAt 36 = .ok (.ireturn, 1) := by decide +kernel
theorem dX4_holds_0 : decode cX4_holds 0 = .ok (.iload_n 1, 1) := by decide +kernel
theorem dX4_holds_1 : decode cX4_holds 1 = .ok (.ifCond .lt 21, 3) := by decide +kernel
theorem dX4_holds_4 : decode cX4_holds 4 = .ok (.iload_n 2, 1) := by decide +kernel
theorem dX4_holds_5 : decode cX4_holds 5 = .ok (.ifCond .lt 17, 3) := by decide +kernel
theorem dX4_holds_8 : decode cX4_holds 8 = .ok (.iload_n 1, 1) := by decide +kernel
theorem dX4_holds_9 : decode cX4_holds 9 = .ok (.aload_n 0, 1) := by decide +kernel
theorem dX4_holds_10 : decode cX4_holds 10 = .ok (.getfield 19, 3) := by decide +kernel
theorem dX4_holds_13 : decode cX4_holds 13 = .ok (.iload_n 2, 1) := by decide +kernel
theorem dX4_holds_14 : decode cX4_holds 14 = .ok (.isub, 1) := by decide +kernel
theorem dX4_holds_15 : decode cX4_holds 15 = .ok (.if_icmp .gt 7, 3) := by decide +kernel
theorem dX4_holds_18 : decode cX4_holds 18 = .ok (.iconst 1, 1) := by decide +kernel
theorem dX4_holds_19 : decode cX4_holds 19 = .ok (.goto 4, 3) := by decide +kernel
theorem dX4_holds_22 : decode cX4_holds 22 = .ok (.iconst 0, 1) := by decide +kernel
theorem dX4_holds_23 : decode cX4_holds 23 = .ok (.ireturn, 1) := by decide +kernel
theorem dX4_put_0 : decode cX4_put 0 = .ok (.aload_n 0, 1) := by decide +kernel
theorem dX4_put_1 : decode cX4_put 1 = .ok (.getfield 15, 3) := by decide +kernel
theorem dX4_put_4 : decode cX4_put 4 = .ok (.ifCond .ne 14, 3) := by decide +kernel
theorem dX4_put_7 : decode cX4_put 7 = .ok (.aload_n 0, 1) := by decide +kernel
theorem dX4_put_8 : decode cX4_put 8 = .ok (.getfield 22, 3) := by decide +kernel
theorem dX4_put_11 : decode cX4_put 11 = .ok (.iload_n 1, 1) := by decide +kernel
theorem dX4_put_12 : decode cX4_put 12 = .ok (.iload_n 2, 1) := by decide +kernel
theorem dX4_put_13 : decode cX4_put 13 = .ok (.i2b, 1) := by decide +kernel
theorem dX4_put_14 : decode cX4_put 14 = .ok (.iastore, 1) := by decide +kernel
theorem dX4_put_15 : decode cX4_put 15 = .ok (.goto 29, 3) := by decide +kernel
theorem dX4_put_18 : decode cX4_put 18 = .ok (.aload_n 0, 1) := by decide +kernel
theorem dX4_put_19 : decode cX4_put 19 = .ok (.getfield 15, 3) := by decide +kernel
theorem dX4_put_22 : decode cX4_put 22 = .ok (.iconst 1, 1) := by decide +kernel
theorem dX4_put_23 : decode cX4_put 23 = .ok (.if_icmp .ne 14, 3) := by decide +kernel
theorem dX4_put_26 : decode cX4_put 26 = .ok (.aload_n 0, 1) := by decide +kernel
theorem dX4_put_27 : decode cX4_put 27 = .ok (.getfield 22, 3) := by decide +kernel
theorem dX4_put_30 : decode cX4_put 30 = .ok (.iload_n 1, 1) := by decide +kernel
theorem dX4_put_31 : decode cX4_put 31 = .ok (.iload_n 2, 1) := by decide +kernel
theorem dX4_put_32 : decode cX4_put 32 = .ok (.i2s, 1) := by decide +kernel
theorem dX4_put_33 : decode cX4_put 33 = .ok (.iastore, 1) := by decide +kernel
theorem dX4_put_34 : decode cX4_put 34 = .ok (.goto 10, 3) := by decide +kernel
theorem dX4_put_37 : decode cX4_put 37 = .ok (.aload_n 0, 1) := by decide +kernel
theorem dX4_put_38 : decode cX4_put 38 = .ok (.getfield 22, 3) := by decide +kernel
theorem dX4_put_41 : decode cX4_put 41 = .ok (.iload_n 1, 1) := by decide +kernel
theorem dX4_put_42 : decode cX4_put 42 = .ok (.iload_n 2, 1) := by decide +kernel
theorem dX4_put_43 : decode cX4_put 43 = .ok (.iastore, 1) := by decide +kernel
theorem dX4_put_44 : decode cX4_put 44 = .ok (.return_, 1) := by decide +kernel
theorem dX5_init_0 : decode cX5_init 0 = .ok (.aload_n 0, 1) := by decide +kernel
theorem dX5_init_1 : decode cX5_init 1 = .ok (.invokespecial 3, 3) := by decide +kernel
theorem dX5_init_4 : decode cX5_init 4 = .ok (.aload_n 0, 1) := by decide +kernel
theorem dX5_init_5 : decode cX5_init 5 = .ok (.bipush 47, 2) := by decide +kernel
theorem dX5_init_7 : decode cX5_init 7 = .ok (.newarray .int, 2) := by decide +kernel
theorem dX5_init_9 : decode cX5_init 9 = .ok (.putfield 9, 3) := by decide +kernel
theorem dX5_init_12 : decode cX5_init 12 = .ok (.aload_n 0, 1) := by decide +kernel
theorem dX5_init_13 : decode cX5_init 13 = .ok (.iconst 0, 1) := by decide +kernel
theorem dX5_init_14 : decode cX5_init 14 = .ok (.putfield 15, 3) := by decide +kernel
theorem dX5_init_17 : decode cX5_init 17 = .ok (.aload_n 0, 1) := by decide +kernel
theorem dX5_init_18 : decode cX5_init 18 = .ok (.iload_n 1, 1) := by decide +kernel
theorem dX5_init_19 : decode cX5_init 19 = .ok (.putfield 19, 3) := by decide +kernel
theorem dX5_init_22 : decode cX5_init 22 = .ok (.aload_n 0, 1) := by decide +kernel
theorem dX5_init_23 : decode cX5_init 23 = .ok (.iload_n 1, 1) := by decide +kernel
theorem dX5_init_24 : decode cX5_init 24 = .ok (.ifCond .eq 8, 3) := by decide +kernel
theorem dX5_init_27 : decode cX5_init 27 = .ok (.bipush 47, 2) := by decide +kernel
theorem dX5_init_29 : decode cX5_init 29 = .ok (.goto 5, 3) := by decide +kernel
theorem dX5_init_32 : decode cX5_init 32 = .ok (.bipush 32, 2) := by decide +kernel
theorem dX5_init_34 : decode cX5_init 34 = .ok (.putfield 23, 3) := by decide +kernel
theorem dX5_init_37 : decode cX5_init 37 = .ok (.aload_n 0, 1) := by decide +kernel
theorem dX5_init_38 : decode cX5_init 38 = .ok (.iload_n 1, 1) := by decide +kernel
theorem dX5_init_39 : decode cX5_init 39 = .ok (.ifCond .eq 8, 3) := by decide +kernel
theorem dX5_init_42 : decode cX5_init 42 = .ok (.bipush 16, 2) := by decide +kernel
theorem dX5_init_44 : decode cX5_init 44 = .ok (.goto 5, 3) := by decide +kernel
theorem dX5_init_47 : decode cX5_init 47 = .ok (.bipush 11, 2) := by decide +kernel
theorem dX5_init_49 : decode cX5_init 49 = .ok (.putfield 26, 3) := by decide +kernel
theorem dX5_init_52 : decode cX5_init 52 = .ok (.return_, 1) := by decide +kernel
theorem dX5_append_0 : decode cX5_append 0 = .ok (.aload_n 0, 1) := by decide +kernel
theorem dX5_append_1 : decode cX5_append 1 = .ok (.getfield 15, 3) := by decide +kernel
theorem dX5_append_4 : decode cX5_append 4 = .ok (.aload_n 0, 1) := by decide +kernel
theorem dX5_append_5 : decode cX5_append 5 = .ok (.getfield 23, 3) := by decide +kernel
theorem dX5_append_8 : decode cX5_append 8 = .ok (.if_icmp .lt 5, 3) := by decide +kernel
theorem dX5_append_11 : decode cX5_append 11 = .ok (.iconst 0, 1) := by decide +kernel
theorem dX5_append_12 : decode cX5_append 12 = .ok (.ireturn, 1) := by decide +kernel
theorem dX5_append_13 : decode cX5_append 13 = .ok (.aload_n 0, 1) := by decide +kernel
theorem dX5_append_14 : decode cX5_append 14 = .ok (.getfield 9, 3) := by decide +kernel
theorem dX5_append_17 : decode cX5_append 17 = .ok (.aload_n 0, 1) := by decide +kernel
theorem dX5_append_18 : decode cX5_append 18 = .ok (.getfield 15, 3) := by decide +kernel
theorem dX5_append_21 : decode cX5_append 21 = .ok (.iload_n 1, 1) := by decide +kernel
theorem dX5_append_22 : decode cX5_append 22 = .ok (.iastore, 1) := by decide +kernel
theorem dX5_append_23 : decode cX5_append 23 = .ok (.aload_n 0, 1) := by decide +kernel
theorem dX5_append_24 : decode cX5_append 24 = .ok (.dup, 1) := by decide +kernel
theorem dX5_append_25 : decode cX5_append 25 = .ok (.getfield 15, 3) := by decide +kernel
theorem dX5_append_28 : decode cX5_append 28 = .ok (.iconst 1, 1) := by decide +kernel
theorem dX5_append_29 : decode cX5_append 29 = .ok (.iadd, 1) := by decide +kernel
theorem dX5_append_30 : decode cX5_append 30 = .ok (.putfield 15, 3) := by decide +kernel
theorem dX5_append_33 : decode cX5_append 33 = .ok (.iconst 1, 1) := by decide +kernel
theorem dX5_append_34 : decode cX5_append 34 = .ok (.ireturn, 1) := by decide +kernel
theorem dX5_faultPlace_0 : decode cX5_faultPlace 0 = .ok (.iconst 0, 1) := by decide +kernel
theorem dX5_faultPlace_1 : decode cX5_faultPlace 1 = .ok (.istore_n 1, 1) := by decide +kernel
theorem dX5_faultPlace_2 : decode cX5_faultPlace 2 = .ok (.iload_n 1, 1) := by decide +kernel
theorem dX5_faultPlace_3 : decode cX5_faultPlace 3 = .ok (.aload_n 0, 1) := by decide +kernel
theorem dX5_faultPlace_4 : decode cX5_faultPlace 4 = .ok (.getfield 15, 3) := by decide +kernel
theorem dX5_faultPlace_7 : decode cX5_faultPlace 7 = .ok (.if_icmp .ge 37, 3) := by decide +kernel
theorem dX5_faultPlace_10 : decode cX5_faultPlace 10 = .ok (.iload_n 1, 1) := by decide +kernel
theorem dX5_faultPlace_11 : decode cX5_faultPlace 11 = .ok (.iconst 3, 1) := by decide +kernel
theorem dX5_faultPlace_12 : decode cX5_faultPlace 12 = .ok (.idiv, 1) := by decide +kernel
theorem dX5_faultPlace_13 : decode cX5_faultPlace 13 = .ok (.aload_n 0, 1) := by decide +kernel
theorem dX5_faultPlace_14 : decode cX5_faultPlace 14 = .ok (.getfield 26, 3) := by decide +kernel
theorem dX5_faultPlace_17 : decode cX5_faultPlace 17 = .ok (.if_icmp .ge 19, 3) := by decide +kernel
theorem dX5_faultPlace_20 : decode cX5_faultPlace 20 = .ok (.aload_n 0, 1) := by decide +kernel
theorem dX5_faultPlace_21 : decode cX5_faultPlace 21 = .ok (.aload_n 0, 1) := by decide +kernel
theorem dX5_faultPlace_22 : decode cX5_faultPlace 22 = .ok (.getfield 9, 3) := by decide +kernel
theorem dX5_faultPlace_25 : decode cX5_faultPlace 25 = .ok (.iload_n 1, 1) := by decide +kernel
theorem dX5_faultPlace_26 : decode cX5_faultPlace 26 = .ok (.iaload, 1) := by decide +kernel
theorem dX5_faultPlace_27 : decode cX5_faultPlace 27 = .ok (.iload_n 1, 1) := by decide +kernel
theorem dX5_faultPlace_28 : decode cX5_faultPlace 28 = .ok (.iconst 3, 1) := by decide +kernel
theorem dX5_faultPlace_29 : decode cX5_faultPlace 29 = .ok (.irem, 1) := by decide +kernel
theorem dX5_faultPlace_30 : decode cX5_faultPlace 30 = .ok (.invokevirtual 29, 3) := by decide +kernel
theorem dX5_faultPlace_33 : decode cX5_faultPlace 33 = .ok (.ifCond .ne 5, 3) := by decide +kernel
theorem dX5_faultPlace_36 : decode cX5_faultPlace 36 = .ok (.iload_n 1, 1) := by decide +kernel
theorem dX5_faultPlace_37 : decode cX5_faultPlace 37 = .ok (.ireturn, 1) := by decide +kernel
theorem dX5_faultPlace_38 : decode cX5_faultPlace 38 = .ok (.iinc 1 1, 3) := by decide +kernel
theorem dX5_faultPlace_41 : decode cX5_faultPlace 41 = .ok (.goto (-39), 3) := by decide +kernel
theorem dX5_faultPlace_44 : decode cX5_faultPlace 44 = .ok (.aload_n 0, 1) := by decide +kernel
theorem dX5_faultPlace_45 : decode cX5_faultPlace 45 = .ok (.getfield 15, 3) := by decide +kernel
theorem dX5_faultPlace_48 : decode cX5_faultPlace 48 = .ok (.ifCond .eq 13, 3) := by decide +kernel
theorem dX5_faultPlace_51 : decode cX5_faultPlace 51 = .ok (.aload_n 0, 1) := by decide +kernel
theorem dX5_faultPlace_52 : decode cX5_faultPlace 52 = .ok (.getfield 15, 3) := by decide +kernel
theorem dX5_faultPlace_55 : decode cX5_faultPlace 55 = .ok (.iconst 3, 1) := by decide +kernel
theorem dX5_faultPlace_56 : decode cX5_faultPlace 56 = .ok (.irem, 1) := by decide +kernel
theorem dX5_faultPlace_57 : decode cX5_faultPlace 57 = .ok (.iconst 2, 1) := by decide +kernel
theorem dX5_faultPlace_58 : decode cX5_faultPlace 58 = .ok (.if_icmp .ne 7, 3) := by decide +kernel
theorem dX5_faultPlace_61 : decode cX5_faultPlace 61 = .ok (.iconst (-1), 1) := by decide +kernel
theorem dX5_faultPlace_62 : decode cX5_faultPlace 62 = .ok (.goto 7, 3) := by decide +kernel
theorem dX5_faultPlace_65 : decode cX5_faultPlace 65 = .ok (.aload_n 0, 1) := by decide +kernel
theorem dX5_faultPlace_66 : decode cX5_faultPlace 66 = .ok (.getfield 15, 3) := by decide +kernel
theorem dX5_faultPlace_69 : decode cX5_faultPlace 69 = .ok (.ireturn, 1) := by decide +kernel
theorem dX5_things_0 : decode cX5_things 0 = .ok (.aload_n 0, 1) := by decide +kernel
theorem dX5_things_1 : decode cX5_things 1 = .ok (.invokevirtual 33, 3) := by decide +kernel
theorem dX5_things_4 : decode cX5_things 4 = .ok (.iconst (-1), 1) := by decide +kernel
theorem dX5_things_5 : decode cX5_things 5 = .ok (.if_icmp .ne 14, 3) := by decide +kernel
theorem dX5_things_8 : decode cX5_things 8 = .ok (.aload_n 0, 1) := by decide +kernel
theorem dX5_things_9 : decode cX5_things 9 = .ok (.getfield 15, 3) := by decide +kernel
theorem dX5_things_12 : decode cX5_things 12 = .ok (.iconst 1, 1) := by decide +kernel
theorem dX5_things_13 : decode cX5_things 13 = .ok (.iadd, 1) := by decide +kernel
theorem dX5_things_14 : decode cX5_things 14 = .ok (.iconst 3, 1) := by decide +kernel
theorem dX5_things_15 : decode cX5_things 15 = .ok (.idiv, 1) := by decide +kernel
theorem dX5_things_16 : decode cX5_things 16 = .ok (.goto 4, 3) := by decide +kernel
theorem dX5_things_19 : decode cX5_things 19 = .ok (.iconst 0, 1) := by decide +kernel
theorem dX5_things_20 : decode cX5_things 20 = .ok (.ireturn, 1) := by decide +kernel
theorem dX5_meaning_0 : decode cX5_meaning 0 = .ok (.aload_n 0, 1) := by decide +kernel
theorem dX5_meaning_1 : decode cX5_meaning 1 = .ok (.getfield 19, 3) := by decide +kernel
theorem dX5_meaning_4 : decode cX5_meaning 4 = .ok (.ifCond .eq 21, 3) := by decide +kernel
theorem dX5_meaning_7 : decode cX5_meaning 7 = .ok (.iload_n 1, 1) := by decide +kernel
theorem dX5_meaning_8 : decode cX5_meaning 8 = .ok (.bipush 97, 2) := by decide +kernel
theorem dX5_meaning_10 : decode cX5_meaning 10 = .ok (.iload_n 2, 1) := by decide +kernel
theorem dX5_meaning_11 : decode cX5_meaning 11 = .ok (.ifCond .ne 8, 3) := by decide +kernel
theorem dX5_meaning_14 : decode cX5_meaning 14 = .ok (.bipush 24, 2) := by decide +kernel
theorem dX5_meaning_16 : decode cX5_meaning 16 = .ok (.goto 5, 3) := by decide +kernel
theorem dX5_meaning_19 : decode cX5_meaning 19 = .ok (.bipush 11, 2) := by decide +kernel
theorem dX5_meaning_21 : decode cX5_meaning 21 = .ok (.invokestatic 37, 3) := by decide +kernel
theorem dX5_meaning_24 : decode cX5_meaning 24 = .ok (.ireturn, 1) := by decide +kernel
theorem dX5_meaning_25 : decode cX5_meaning 25 = .ok (.iload_n 2, 1) := by decide +kernel
theorem dX5_meaning_26 : decode cX5_meaning 26 = .ok (.ifCond .ne 10, 3) := by decide +kernel
theorem dX5_meaning_29 : decode cX5_meaning 29 = .ok (.iload_n 1, 1) := by decide +kernel
theorem dX5_meaning_30 : decode cX5_meaning 30 = .ok (.invokestatic 41, 3) := by decide +kernel
theorem dX5_meaning_33 : decode cX5_meaning 33 = .ok (.goto 10, 3) := by decide +kernel
theorem dX5_meaning_36 : decode cX5_meaning 36 = .ok (.iload_n 1, 1) := by decide +kernel
theorem dX5_meaning_37 : decode cX5_meaning 37 = .ok (.bipush 48, 2) := by decide +kernel
theorem dX5_meaning_39 : decode cX5_meaning 39 = .ok (.iconst 4, 1) := by decide +kernel
theorem dX5_meaning_40 : decode cX5_meaning 40 = .ok (.invokestatic 37, 3) := by decide +kernel
theorem dX5_meaning_43 : decode cX5_meaning 43 = .ok (.ireturn, 1) := by decide +kernel
theorem dX5_meaningAt_0 : decode cX5_meaningAt 0 = .ok (.iload_n 1, 1) := by decide +kernel
theorem dX5_meaningAt_1 : decode cX5_meaningAt 1 = .ok (.iconst 3, 1) := by decide +kernel
theorem dX5_meaningAt_2 : decode cX5_meaningAt 2 = .ok (.imul, 1) := by decide +kernel
theorem dX5_meaningAt_3 : decode cX5_meaningAt 3 = .ok (.iload_n 2, 1) := by decide +kernel
theorem dX5_meaningAt_4 : decode cX5_meaningAt 4 = .ok (.iadd, 1) := by decide +kernel
theorem dX5_meaningAt_5 : decode cX5_meaningAt 5 = .ok (.istore_n 3, 1) := by decide +kernel
theorem dX5_meaningAt_6 : decode cX5_meaningAt 6 = .ok (.iload_n 3, 1) := by decide +kernel
theorem dX5_meaningAt_7 : decode cX5_meaningAt 7 = .ok (.ifCond .lt 25, 3) := by decide +kernel
theorem dX5_meaningAt_10 : decode cX5_meaningAt 10 = .ok (.iload_n 3, 1) := by decide +kernel
theorem dX5_meaningAt_11 : decode cX5_meaningAt 11 = .ok (.aload_n 0, 1) := by decide +kernel
theorem dX5_meaningAt_12 : decode cX5_meaningAt 12 = .ok (.getfield 15, 3) := by decide +kernel
theorem dX5_meaningAt_15 : decode cX5_meaningAt 15 = .ok (.if_icmp .ge 17, 3) := by decide +kernel
theorem dX5_meaningAt_18 : decode cX5_meaningAt 18 = .ok (.aload_n 0, 1) := by decide +kernel
theorem dX5_meaningAt_19 : decode cX5_meaningAt 19 = .ok (.aload_n 0, 1) := by decide +kernel
theorem dX5_meaningAt_20 : decode cX5_meaningAt 20 = .ok (.getfield 9, 3) := by decide +kernel
theorem dX5_meaningAt_23 : decode cX5_meaningAt 23 = .ok (.iload_n 3, 1) := by decide +kernel
theorem dX5_meaningAt_24 : decode cX5_meaningAt 24 = .ok (.iaload, 1) := by decide +kernel
theorem dX5_meaningAt_25 : decode cX5_meaningAt 25 = .ok (.iload_n 2, 1) := by decide +kernel
theorem dX5_meaningAt_26 : decode cX5_meaningAt 26 = .ok (.invokevirtual 45, 3) := by decide +kernel
theorem dX5_meaningAt_29 : decode cX5_meaningAt 29 = .ok (.goto 4, 3) := by decide +kernel
theorem dX5_meaningAt_32 : decode cX5_meaningAt 32 = .ok (.iconst (-1), 1) := by decide +kernel
theorem dX5_meaningAt_33 : decode cX5_meaningAt 33 = .ok (.ireturn, 1) := by decide +kernel
theorem dX5_mayStand_0 : decode cX5_mayStand 0 = .ok (.iload_n 2, 1) := by decide +kernel
theorem dX5_mayStand_1 : decode cX5_mayStand 1 = .ok (.iconst 2, 1) := by decide +kernel
theorem dX5_mayStand_2 : decode cX5_mayStand 2 = .ok (.if_icmp .ne 17, 3) := by decide +kernel
theorem dX5_mayStand_5 : decode cX5_mayStand 5 = .ok (.iload_n 1, 1) := by decide +kernel
theorem dX5_mayStand_6 : decode cX5_mayStand 6 = .ok (.bipush 59, 2) := by decide +kernel
theorem dX5_mayStand_8 : decode cX5_mayStand 8 = .ok (.if_icmp .ne 7, 3) := by decide +kernel
theorem dX5_mayStand_11 : decode cX5_mayStand 11 = .ok (.iconst 1, 1) := by decide +kernel
theorem dX5_mayStand_12 : decode cX5_mayStand 12 = .ok (.goto 22, 3) := by decide +kernel
theorem dX5_mayStand_15 : decode cX5_mayStand 15 = .ok (.iconst 0, 1) := by decide +kernel
theorem dX5_mayStand_16 : decode cX5_mayStand 16 = .ok (.goto 18, 3) := by decide +kernel
theorem dX5_mayStand_19 : decode cX5_mayStand 19 = .ok (.aload_n 0, 1) := by decide +kernel
theorem dX5_mayStand_20 : decode cX5_mayStand 20 = .ok (.iload_n 1, 1) := by decide +kernel
theorem dX5_mayStand_21 : decode cX5_mayStand 21 = .ok (.iload_n 2, 1) := by decide +kernel
theorem dX5_mayStand_22 : decode cX5_mayStand 22 = .ok (.invokevirtual 45, 3) := by decide +kernel
theorem dX5_mayStand_25 : decode cX5_mayStand 25 = .ok (.iconst (-1), 1) := by decide +kernel
theorem dX5_mayStand_26 : decode cX5_mayStand 26 = .ok (.if_icmp .eq 7, 3) := by decide +kernel
theorem dX5_mayStand_29 : decode cX5_mayStand 29 = .ok (.iconst 1, 1) := by decide +kernel
theorem dX5_mayStand_30 : decode cX5_mayStand 30 = .ok (.goto 4, 3) := by decide +kernel
theorem dX5_mayStand_33 : decode cX5_mayStand 33 = .ok (.iconst 0, 1) := by decide +kernel
theorem dX5_mayStand_34 : decode cX5_mayStand 34 = .ok (.ireturn, 1) := by decide +kernel
theorem dX5_upTo_0 : decode cX5_upTo 0 = .ok (.iload_n 0, 1) := by decide +kernel
theorem dX5_upTo_1 : decode cX5_upTo 1 = .ok (.iload_n 1, 1) := by decide +kernel
theorem dX5_upTo_2 : decode cX5_upTo 2 = .ok (.if_icmp .lt 16, 3) := by decide +kernel
theorem dX5_upTo_5 : decode cX5_upTo 5 = .ok (.iload_n 0, 1) := by decide +kernel
theorem dX5_upTo_6 : decode cX5_upTo 6 = .ok (.iload_n 1, 1) := by decide +kernel
theorem dX5_upTo_7 : decode cX5_upTo 7 = .ok (.iload_n 2, 1) := by decide +kernel
theorem dX5_upTo_8 : decode cX5_upTo 8 = .ok (.iadd, 1) := by decide +kernel
theorem dX5_upTo_9 : decode cX5_upTo 9 = .ok (.if_icmp .ge 9, 3) := by decide +kernel
theorem dX5_upTo_12 : decode cX5_upTo 12 = .ok (.iload_n 0, 1) := by decide +kernel
theorem dX5_upTo_13 : decode cX5_upTo 13 = .ok (.iload_n 1, 1) := by decide +kernel
theorem dX5_upTo_14 : decode cX5_upTo 14 = .ok (.isub, 1) := by decide +kernel
theorem dX5_upTo_15 : decode cX5_upTo 15 = .ok (.goto 4, 3) := by decide +kernel
theorem dX5_upTo_18 : decode cX5_upTo 18 = .ok (.iconst (-1), 1) := by decide +kernel
theorem dX5_upTo_19 : decode cX5_upTo 19 = .ok (.ireturn, 1) := by decide +kernel
theorem dX5_sortOf_0 : decode cX5_sortOf 0 = .ok (.iload_n 0, 1) := by decide +kernel
theorem dX5_sortOf_1 : decode cX5_sortOf 1 = .ok (.lookupswitch 41 #[(99, 39), (104, 37), (116, 35)], 35) := by decide +kernel
theorem dX5_sortOf_36 : decode cX5_sortOf 36 = .ok (.iconst 0, 1) := by decide +kernel
theorem dX5_sortOf_37 : decode cX5_sortOf 37 = .ok (.ireturn, 1) := by decide +kernel
theorem dX5_sortOf_38 : decode cX5_sortOf 38 = .ok (.iconst 1, 1) := by decide +kernel
theorem dX5_sortOf_39 : decode cX5_sortOf 39 = .ok (.ireturn, 1) := by decide +kernel
theorem dX5_sortOf_40 : decode cX5_sortOf 40 = .ok (.iconst 2, 1) := by decide +kernel
theorem dX5_sortOf_41 : decode cX5_sortOf 41 = .ok (.ireturn, 1) := by decide +kernel
theorem dX5_sortOf_42 : decode cX5_sortOf 42 = .ok (.iconst (-1), 1) := by decide +kernel
theorem dX5_sortOf_43 : decode cX5_sortOf 43 = .ok (.ireturn, 1) := by decide +kernel
theorem dJ6_bitCount_0f7a4_0 : decode cJ6_bitCount_0f7a4 0 = .ok (.iload_n 0, 1) := by decide +kernel
theorem dJ6_bitCount_0f7a4_1 : decode cJ6_bitCount_0f7a4 1 = .ok (.iload_n 0, 1) := by decide +kernel
theorem dJ6_bitCount_0f7a4_2 : decode cJ6_bitCount_0f7a4 2 = .ok (.iconst 1, 1) := by decide +kernel
theorem dJ6_bitCount_0f7a4_3 : decode cJ6_bitCount_0f7a4 3 = .ok (.iushr, 1) := by decide +kernel
theorem dJ6_bitCount_0f7a4_4 : decode cJ6_bitCount_0f7a4 4 = .ok (.ldc_w 265, 3) := by decide +kernel
theorem dJ6_bitCount_0f7a4_7 : decode cJ6_bitCount_0f7a4 7 = .ok (.iand, 1) := by decide +kernel
theorem dJ6_bitCount_0f7a4_8 : decode cJ6_bitCount_0f7a4 8 = .ok (.isub, 1) := by decide +kernel
theorem dJ6_bitCount_0f7a4_9 : decode cJ6_bitCount_0f7a4 9 = .ok (.istore_n 0, 1) := by decide +kernel
theorem dJ6_bitCount_0f7a4_10 : decode cJ6_bitCount_0f7a4 10 = .ok (.iload_n 0, 1) := by decide +kernel
theorem dJ6_bitCount_0f7a4_11 : decode cJ6_bitCount_0f7a4 11 = .ok (.ldc_w 266, 3) := by decide +kernel
theorem dJ6_bitCount_0f7a4_14 : decode cJ6_bitCount_0f7a4 14 = .ok (.iand, 1) := by decide +kernel
theorem dJ6_bitCount_0f7a4_15 : decode cJ6_bitCount_0f7a4 15 = .ok (.iload_n 0, 1) := by decide +kernel
theorem dJ6_bitCount_0f7a4_16 : decode cJ6_bitCount_0f7a4 16 = .ok (.iconst 2, 1) := by decide +kernel
theorem dJ6_bitCount_0f7a4_17 : decode cJ6_bitCount_0f7a4 17 = .ok (.iushr, 1) := by decide +kernel
theorem dJ6_bitCount_0f7a4_18 : decode cJ6_bitCount_0f7a4 18 = .ok (.ldc_w 266, 3) := by decide +kernel
theorem dJ6_bitCount_0f7a4_21 : decode cJ6_bitCount_0f7a4 21 = .ok (.iand, 1) := by decide +kernel
theorem dJ6_bitCount_0f7a4_22 : decode cJ6_bitCount_0f7a4 22 = .ok (.iadd, 1) := by decide +kernel
theorem dJ6_bitCount_0f7a4_23 : decode cJ6_bitCount_0f7a4 23 = .ok (.istore_n 0, 1) := by decide +kernel
theorem dJ6_bitCount_0f7a4_24 : decode cJ6_bitCount_0f7a4 24 = .ok (.iload_n 0, 1) := by decide +kernel
theorem dJ6_bitCount_0f7a4_25 : decode cJ6_bitCount_0f7a4 25 = .ok (.iload_n 0, 1) := by decide +kernel
theorem dJ6_bitCount_0f7a4_26 : decode cJ6_bitCount_0f7a4 26 = .ok (.iconst 4, 1) := by decide +kernel
theorem dJ6_bitCount_0f7a4_27 : decode cJ6_bitCount_0f7a4 27 = .ok (.iushr, 1) := by decide +kernel
theorem dJ6_bitCount_0f7a4_28 : decode cJ6_bitCount_0f7a4 28 = .ok (.iadd, 1) := by decide +kernel
theorem dJ6_bitCount_0f7a4_29 : decode cJ6_bitCount_0f7a4 29 = .ok (.ldc_w 267, 3) := by decide +kernel
theorem dJ6_bitCount_0f7a4_32 : decode cJ6_bitCount_0f7a4 32 = .ok (.iand, 1) := by decide +kernel
theorem dJ6_bitCount_0f7a4_33 : decode cJ6_bitCount_0f7a4 33 = .ok (.istore_n 0, 1) := by decide +kernel
theorem dJ6_bitCount_0f7a4_34 : decode cJ6_bitCount_0f7a4 34 = .ok (.iload_n 0, 1) := by decide +kernel
theorem dJ6_bitCount_0f7a4_35 : decode cJ6_bitCount_0f7a4 35 = .ok (.iload_n 0, 1) := by decide +kernel
theorem dJ6_bitCount_0f7a4_36 : decode cJ6_bitCount_0f7a4 36 = .ok (.bipush 8, 2) := by decide +kernel
theorem dJ6_bitCount_0f7a4_38 : decode cJ6_bitCount_0f7a4 38 = .ok (.iushr, 1) := by decide +kernel
theorem dJ6_bitCount_0f7a4_39 : decode cJ6_bitCount_0f7a4 39 = .ok (.iadd, 1) := by decide +kernel
theorem dJ6_bitCount_0f7a4_40 : decode cJ6_bitCount_0f7a4 40 = .ok (.istore_n 0, 1) := by decide +kernel
theorem dJ6_bitCount_0f7a4_41 : decode cJ6_bitCount_0f7a4 41 = .ok (.iload_n 0, 1) := by decide +kernel
theorem dJ6_bitCount_0f7a4_42 : decode cJ6_bitCount_0f7a4 42 = .ok (.iload_n 0, 1) := by decide +kernel
theorem dJ6_bitCount_0f7a4_43 : decode cJ6_bitCount_0f7a4 43 = .ok (.bipush 16, 2) := by decide +kernel
theorem dJ6_bitCount_0f7a4_45 : decode cJ6_bitCount_0f7a4 45 = .ok (.iushr, 1) := by decide +kernel
theorem dJ6_bitCount_0f7a4_46 : decode cJ6_bitCount_0f7a4 46 = .ok (.iadd, 1) := by decide +kernel
theorem dJ6_bitCount_0f7a4_47 : decode cJ6_bitCount_0f7a4 47 = .ok (.istore_n 0, 1) := by decide +kernel
theorem dJ6_bitCount_0f7a4_48 : decode cJ6_bitCount_0f7a4 48 = .ok (.iload_n 0, 1) := by decide +kernel
theorem dJ6_bitCount_0f7a4_49 : decode cJ6_bitCount_0f7a4 49 = .ok (.bipush 63, 2) := by decide +kernel
theorem dJ6_bitCount_0f7a4_51 : decode cJ6_bitCount_0f7a4 51 = .ok (.iand, 1) := by decide +kernel
theorem dJ6_bitCount_0f7a4_52 : decode cJ6_bitCount_0f7a4 52 = .ok (.ireturn, 1) := by decide +kernel
theorem dJ7_fill_53178_0 : decode cJ7_fill_53178 0 = .ok (.iconst 0, 1) := by decide +kernel
theorem dJ7_fill_53178_1 : decode cJ7_fill_53178 1 = .ok (.istore_n 2, 1) := by decide +kernel
theorem dJ7_fill_53178_2 : decode cJ7_fill_53178 2 = .ok (.aload_n 0, 1) := by decide +kernel
theorem dJ7_fill_53178_3 : decode cJ7_fill_53178 3 = .ok (.arraylength, 1) := by decide +kernel
theorem dJ7_fill_53178_4 : decode cJ7_fill_53178 4 = .ok (.istore_n 3, 1) := by decide +kernel
theorem dJ7_fill_53178_5 : decode cJ7_fill_53178 5 = .ok (.iload_n 2, 1) := by decide +kernel
theorem dJ7_fill_53178_6 : decode cJ7_fill_53178 6 = .ok (.iload_n 3, 1) := by decide +kernel
theorem dJ7_fill_53178_7 : decode cJ7_fill_53178 7 = .ok (.if_icmp .ge 13, 3) := by decide +kernel
theorem dJ7_fill_53178_10 : decode cJ7_fill_53178 10 = .ok (.aload_n 0, 1) := by decide +kernel
theorem dJ7_fill_53178_11 : decode cJ7_fill_53178 11 = .ok (.iload_n 2, 1) := by decide +kernel
theorem dJ7_fill_53178_12 : decode cJ7_fill_53178 12 = .ok (.iload_n 1, 1) := by decide +kernel
theorem dJ7_fill_53178_13 : decode cJ7_fill_53178 13 = .ok (.iastore, 1) := by decide +kernel
theorem dJ7_fill_53178_14 : decode cJ7_fill_53178 14 = .ok (.iinc 2 1, 3) := by decide +kernel
theorem dJ7_fill_53178_17 : decode cJ7_fill_53178 17 = .ok (.goto (-12), 3) := by decide +kernel
theorem dJ7_fill_53178_20 : decode cJ7_fill_53178 20 = .ok (.return_, 1) := by decide +kernel
theorem dJ9_abs_0f7a4_0 : decode cJ9_abs_0f7a4 0 = .ok (.iload_n 0, 1) := by decide +kernel
theorem dJ9_abs_0f7a4_1 : decode cJ9_abs_0f7a4 1 = .ok (.ifCond .ge 8, 3) := by decide +kernel
theorem dJ9_abs_0f7a4_4 : decode cJ9_abs_0f7a4 4 = .ok (.iload_n 0, 1) := by decide +kernel
theorem dJ9_abs_0f7a4_5 : decode cJ9_abs_0f7a4 5 = .ok (.ineg, 1) := by decide +kernel
theorem dJ9_abs_0f7a4_6 : decode cJ9_abs_0f7a4 6 = .ok (.goto 4, 3) := by decide +kernel
theorem dJ9_abs_0f7a4_9 : decode cJ9_abs_0f7a4 9 = .ok (.iload_n 0, 1) := by decide +kernel
theorem dJ9_abs_0f7a4_10 : decode cJ9_abs_0f7a4 10 = .ok (.ireturn, 1) := by decide +kernel
theorem dJ9_max_7cf53_0 : decode cJ9_max_7cf53 0 = .ok (.iload_n 0, 1) := by decide +kernel
theorem dJ9_max_7cf53_1 : decode cJ9_max_7cf53 1 = .ok (.iload_n 1, 1) := by decide +kernel
theorem dJ9_max_7cf53_2 : decode cJ9_max_7cf53 2 = .ok (.if_icmp .lt 7, 3) := by decide +kernel
theorem dJ9_max_7cf53_5 : decode cJ9_max_7cf53 5 = .ok (.iload_n 0, 1) := by decide +kernel
theorem dJ9_max_7cf53_6 : decode cJ9_max_7cf53 6 = .ok (.goto 4, 3) := by decide +kernel
theorem dJ9_max_7cf53_9 : decode cJ9_max_7cf53 9 = .ok (.iload_n 1, 1) := by decide +kernel
theorem dJ9_max_7cf53_10 : decode cJ9_max_7cf53 10 = .ok (.ireturn, 1) := by decide +kernel
theorem dJ9_min_7cf53_0 : decode cJ9_min_7cf53 0 = .ok (.iload_n 0, 1) := by decide +kernel
theorem dJ9_min_7cf53_1 : decode cJ9_min_7cf53 1 = .ok (.iload_n 1, 1) := by decide +kernel
theorem dJ9_min_7cf53_2 : decode cJ9_min_7cf53 2 = .ok (.if_icmp .gt 7, 3) := by decide +kernel
theorem dJ9_min_7cf53_5 : decode cJ9_min_7cf53 5 = .ok (.iload_n 0, 1) := by decide +kernel
theorem dJ9_min_7cf53_6 : decode cJ9_min_7cf53 6 = .ok (.goto 4, 3) := by decide +kernel
theorem dJ9_min_7cf53_9 : decode cJ9_min_7cf53 9 = .ok (.iload_n 1, 1) := by decide +kernel
theorem dJ9_min_7cf53_10 : decode cJ9_min_7cf53 10 = .ok (.ireturn, 1) := by decide +kernel
