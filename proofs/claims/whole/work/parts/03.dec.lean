theorem dX6_init_0 : decode cX6_init 0 = .ok (.aload_n 0, 1) := by decide +kernel
theorem dX6_init_1 : decode cX6_init 1 = .ok (.invokespecial 3, 3) := by decide +kernel
theorem dX6_init_4 : decode cX6_init 4 = .ok (.aload_n 0, 1) := by decide +kernel
theorem dX6_init_5 : decode cX6_init 5 = .ok (.new 9, 3) := by decide +kernel
theorem dX6_init_8 : decode cX6_init 8 = .ok (.dup, 1) := by decide +kernel
theorem dX6_init_9 : decode cX6_init 9 = .ok (.iconst 0, 1) := by decide +kernel
theorem dX6_init_10 : decode cX6_init 10 = .ok (.invokespecial 11, 3) := by decide +kernel
theorem dX6_init_13 : decode cX6_init 13 = .ok (.putfield 14, 3) := by decide +kernel
theorem dX6_init_16 : decode cX6_init 16 = .ok (.aload_n 0, 1) := by decide +kernel
theorem dX6_init_17 : decode cX6_init 17 = .ok (.new 9, 3) := by decide +kernel
theorem dX6_init_20 : decode cX6_init 20 = .ok (.dup, 1) := by decide +kernel
theorem dX6_init_21 : decode cX6_init 21 = .ok (.iconst 1, 1) := by decide +kernel
theorem dX6_init_22 : decode cX6_init 22 = .ok (.invokespecial 11, 3) := by decide +kernel
theorem dX6_init_25 : decode cX6_init 25 = .ok (.putfield 18, 3) := by decide +kernel
theorem dX6_init_28 : decode cX6_init 28 = .ok (.aload_n 0, 1) := by decide +kernel
theorem dX6_init_29 : decode cX6_init 29 = .ok (.new 21, 3) := by decide +kernel
theorem dX6_init_32 : decode cX6_init 32 = .ok (.dup, 1) := by decide +kernel
theorem dX6_init_33 : decode cX6_init 33 = .ok (.invokespecial 23, 3) := by decide +kernel
theorem dX6_init_36 : decode cX6_init 36 = .ok (.putfield 24, 3) := by decide +kernel
theorem dX6_init_39 : decode cX6_init 39 = .ok (.aload_n 0, 1) := by decide +kernel
theorem dX6_init_40 : decode cX6_init 40 = .ok (.new 21, 3) := by decide +kernel
theorem dX6_init_43 : decode cX6_init 43 = .ok (.dup, 1) := by decide +kernel
theorem dX6_init_44 : decode cX6_init 44 = .ok (.invokespecial 23, 3) := by decide +kernel
theorem dX6_init_47 : decode cX6_init 47 = .ok (.putfield 28, 3) := by decide +kernel
theorem dX6_init_50 : decode cX6_init 50 = .ok (.aload_n 0, 1) := by decide +kernel
theorem dX6_init_51 : decode cX6_init 51 = .ok (.new 31, 3) := by decide +kernel
theorem dX6_init_54 : decode cX6_init 54 = .ok (.dup, 1) := by decide +kernel
theorem dX6_init_55 : decode cX6_init 55 = .ok (.invokespecial 33, 3) := by decide +kernel
theorem dX6_init_58 : decode cX6_init 58 = .ok (.putfield 34, 3) := by decide +kernel
theorem dX6_init_61 : decode cX6_init 61 = .ok (.aload_n 0, 1) := by decide +kernel
theorem dX6_init_62 : decode cX6_init 62 = .ok (.new 31, 3) := by decide +kernel
theorem dX6_init_65 : decode cX6_init 65 = .ok (.dup, 1) := by decide +kernel
theorem dX6_init_66 : decode cX6_init 66 = .ok (.invokespecial 33, 3) := by decide +kernel
theorem dX6_init_69 : decode cX6_init 69 = .ok (.putfield 38, 3) := by decide +kernel
theorem dX6_init_72 : decode cX6_init 72 = .ok (.aload_n 0, 1) := by decide +kernel
theorem dX6_init_73 : decode cX6_init 73 = .ok (.new 41, 3) := by decide +kernel
theorem dX6_init_76 : decode cX6_init 76 = .ok (.dup, 1) := by decide +kernel
theorem dX6_init_77 : decode cX6_init 77 = .ok (.invokespecial 43, 3) := by decide +kernel
theorem dX6_init_80 : decode cX6_init 80 = .ok (.putfield 44, 3) := by decide +kernel
theorem dX6_init_83 : decode cX6_init 83 = .ok (.aload_n 0, 1) := by decide +kernel
theorem dX6_init_84 : decode cX6_init 84 = .ok (.new 48, 3) := by decide +kernel
theorem dX6_init_87 : decode cX6_init 87 = .ok (.dup, 1) := by decide +kernel
theorem dX6_init_88 : decode cX6_init 88 = .ok (.invokespecial 50, 3) := by decide +kernel
theorem dX6_init_91 : decode cX6_init 91 = .ok (.putfield 51, 3) := by decide +kernel
theorem dX6_init_94 : decode cX6_init 94 = .ok (.aload_n 0, 1) := by decide +kernel
theorem dX6_init_95 : decode cX6_init 95 = .ok (.new 48, 3) := by decide +kernel
theorem dX6_init_98 : decode cX6_init 98 = .ok (.dup, 1) := by decide +kernel
theorem dX6_init_99 : decode cX6_init 99 = .ok (.invokespecial 50, 3) := by decide +kernel
theorem dX6_init_102 : decode cX6_init 102 = .ok (.putfield 55, 3) := by decide +kernel
theorem dX6_init_105 : decode cX6_init 105 = .ok (.aload_n 0, 1) := by decide +kernel
theorem dX6_init_106 : decode cX6_init 106 = .ok (.new 48, 3) := by decide +kernel
theorem dX6_init_109 : decode cX6_init 109 = .ok (.dup, 1) := by decide +kernel
theorem dX6_init_110 : decode cX6_init 110 = .ok (.invokespecial 50, 3) := by decide +kernel
theorem dX6_init_113 : decode cX6_init 113 = .ok (.putfield 58, 3) := by decide +kernel
theorem dX6_init_116 : decode cX6_init 116 = .ok (.aload_n 0, 1) := by decide +kernel
theorem dX6_init_117 : decode cX6_init 117 = .ok (.new 48, 3) := by decide +kernel
theorem dX6_init_120 : decode cX6_init 120 = .ok (.dup, 1) := by decide +kernel
theorem dX6_init_121 : decode cX6_init 121 = .ok (.invokespecial 50, 3) := by decide +kernel
theorem dX6_init_124 : decode cX6_init 124 = .ok (.putfield 61, 3) := by decide +kernel
theorem dX6_init_127 : decode cX6_init 127 = .ok (.aload_n 0, 1) := by decide +kernel
theorem dX6_init_128 : decode cX6_init 128 = .ok (.sipush 256, 3) := by decide +kernel
theorem dX6_init_131 : decode cX6_init 131 = .ok (.newarray .int, 2) := by decide +kernel
theorem dX6_init_133 : decode cX6_init 133 = .ok (.putfield 64, 3) := by decide +kernel
theorem dX6_init_136 : decode cX6_init 136 = .ok (.aload_n 0, 1) := by decide +kernel
theorem dX6_init_137 : decode cX6_init 137 = .ok (.bipush 48, 2) := by decide +kernel
theorem dX6_init_139 : decode cX6_init 139 = .ok (.newarray .int, 2) := by decide +kernel
theorem dX6_init_141 : decode cX6_init 141 = .ok (.putfield 68, 3) := by decide +kernel
theorem dX6_init_144 : decode cX6_init 144 = .ok (.aload_n 0, 1) := by decide +kernel
theorem dX6_init_145 : decode cX6_init 145 = .ok (.iconst 4, 1) := by decide +kernel
theorem dX6_init_146 : decode cX6_init 146 = .ok (.anewarray 71, 3) := by decide +kernel
theorem dX6_init_149 : decode cX6_init 149 = .ok (.putfield 73, 3) := by decide +kernel
theorem dX6_init_152 : decode cX6_init 152 = .ok (.aload_n 0, 1) := by decide +kernel
theorem dX6_init_153 : decode cX6_init 153 = .ok (.iconst 0, 1) := by decide +kernel
theorem dX6_init_154 : decode cX6_init 154 = .ok (.putfield 77, 3) := by decide +kernel
theorem dX6_init_157 : decode cX6_init 157 = .ok (.aload_n 0, 1) := by decide +kernel
theorem dX6_init_158 : decode cX6_init 158 = .ok (.iconst 0, 1) := by decide +kernel
theorem dX6_init_159 : decode cX6_init 159 = .ok (.putfield 81, 3) := by decide +kernel
theorem dX6_init_162 : decode cX6_init 162 = .ok (.aload_n 0, 1) := by decide +kernel
theorem dX6_init_163 : decode cX6_init 163 = .ok (.iconst 0, 1) := by decide +kernel
theorem dX6_init_164 : decode cX6_init 164 = .ok (.putfield 84, 3) := by decide +kernel
theorem dX6_init_167 : decode cX6_init 167 = .ok (.iconst 0, 1) := by decide +kernel
theorem dX6_init_168 : decode cX6_init 168 = .ok (.istore_n 1, 1) := by decide +kernel
theorem dX6_init_169 : decode cX6_init 169 = .ok (.iload_n 1, 1) := by decide +kernel
theorem dX6_init_170 : decode cX6_init 170 = .ok (.iconst 4, 1) := by decide +kernel
theorem dX6_init_171 : decode cX6_init 171 = .ok (.if_icmp .ge 22, 3) := by decide +kernel
theorem dX6_init_174 : decode cX6_init 174 = .ok (.aload_n 0, 1) := by decide +kernel
theorem dX6_init_175 : decode cX6_init 175 = .ok (.getfield 73, 3) := by decide +kernel
theorem dX6_init_178 : decode cX6_init 178 = .ok (.iload_n 1, 1) := by decide +kernel
theorem dX6_init_179 : decode cX6_init 179 = .ok (.new 71, 3) := by decide +kernel
theorem dX6_init_182 : decode cX6_init 182 = .ok (.dup, 1) := by decide +kernel
theorem dX6_init_183 : decode cX6_init 183 = .ok (.invokespecial 88, 3) := by decide +kernel
theorem dX6_init_186 : decode cX6_init 186 = .ok (.aastore, 1) := by decide +kernel
theorem dX6_init_187 : decode cX6_init 187 = .ok (.iinc 1 1, 3) := by decide +kernel
theorem dX6_init_190 : decode cX6_init 190 = .ok (.goto (-21), 3) := by decide +kernel
theorem dX6_init_193 : decode cX6_init 193 = .ok (.return_, 1) := by decide +kernel
theorem dX6_type_0 : decode cX6_type 0 = .ok (.iload_n 1, 1) := by decide +kernel
theorem dX6_type_1 : decode cX6_type 1 = .ok (.iconst 0, 1) := by decide +kernel
theorem dX6_type_2 : decode cX6_type 2 = .ok (.iconst 1, 1) := by decide +kernel
theorem dX6_type_3 : decode cX6_type 3 = .ok (.invokestatic 89, 3) := by decide +kernel
theorem dX6_type_6 : decode cX6_type 6 = .ok (.ifCond .eq 14, 3) := by decide +kernel
theorem dX6_type_9 : decode cX6_type 9 = .ok (.iload_n 2, 1) := by decide +kernel
theorem dX6_type_10 : decode cX6_type 10 = .ok (.iconst 0, 1) := by decide +kernel
theorem dX6_type_11 : decode cX6_type 11 = .ok (.sipush 255, 3) := by decide +kernel
theorem dX6_type_14 : decode cX6_type 14 = .ok (.invokestatic 89, 3) := by decide +kernel
theorem dX6_type_17 : decode cX6_type 17 = .ok (.ifCond .ne 6, 3) := by decide +kernel
theorem dX6_type_20 : decode cX6_type 20 = .ok (.bipush (-2), 2) := by decide +kernel
theorem dX6_type_22 : decode cX6_type 22 = .ok (.ireturn, 1) := by decide +kernel
theorem dX6_type_23 : decode cX6_type 23 = .ok (.aload_n 0, 1) := by decide +kernel
theorem dX6_type_24 : decode cX6_type 24 = .ok (.iload_n 1, 1) := by decide +kernel
theorem dX6_type_25 : decode cX6_type 25 = .ok (.invokevirtual 93, 3) := by decide +kernel
theorem dX6_type_28 : decode cX6_type 28 = .ok (.astore_n 3, 1) := by decide +kernel
theorem dX6_type_29 : decode cX6_type 29 = .ok (.aload_n 3, 1) := by decide +kernel
theorem dX6_type_30 : decode cX6_type 30 = .ok (.iload_n 2, 1) := by decide +kernel
theorem dX6_type_31 : decode cX6_type 31 = .ok (.invokevirtual 97, 3) := by decide +kernel
theorem dX6_type_34 : decode cX6_type 34 = .ok (.ifCond .ne 6, 3) := by decide +kernel
theorem dX6_type_37 : decode cX6_type 37 = .ok (.bipush (-4), 2) := by decide +kernel
theorem dX6_type_39 : decode cX6_type 39 = .ok (.ireturn, 1) := by decide +kernel
theorem dX6_type_40 : decode cX6_type 40 = .ok (.aload_n 0, 1) := by decide +kernel
theorem dX6_type_41 : decode cX6_type 41 = .ok (.invokevirtual 101, 3) := by decide +kernel
theorem dX6_type_44 : decode cX6_type 44 = .ok (.aload_n 3, 1) := by decide +kernel
theorem dX6_type_45 : decode cX6_type 45 = .ok (.getfield 104, 3) := by decide +kernel
theorem dX6_type_48 : decode cX6_type 48 = .ok (.ireturn, 1) := by decide +kernel
theorem dX6_wipe_0 : decode cX6_wipe 0 = .ok (.iload_n 1, 1) := by decide +kernel
theorem dX6_wipe_1 : decode cX6_wipe 1 = .ok (.iconst 0, 1) := by decide +kernel
theorem dX6_wipe_2 : decode cX6_wipe 2 = .ok (.iconst 1, 1) := by decide +kernel
theorem dX6_wipe_3 : decode cX6_wipe 3 = .ok (.invokestatic 89, 3) := by decide +kernel
theorem dX6_wipe_6 : decode cX6_wipe 6 = .ok (.ifCond .ne 6, 3) := by decide +kernel
theorem dX6_wipe_9 : decode cX6_wipe 9 = .ok (.bipush (-2), 2) := by decide +kernel
theorem dX6_wipe_11 : decode cX6_wipe 11 = .ok (.ireturn, 1) := by decide +kernel
theorem dX6_wipe_12 : decode cX6_wipe 12 = .ok (.aload_n 0, 1) := by decide +kernel
theorem dX6_wipe_13 : decode cX6_wipe 13 = .ok (.iload_n 1, 1) := by decide +kernel
theorem dX6_wipe_14 : decode cX6_wipe 14 = .ok (.invokevirtual 93, 3) := by decide +kernel
theorem dX6_wipe_17 : decode cX6_wipe 17 = .ok (.astore_n 2, 1) := by decide +kernel
theorem dX6_wipe_18 : decode cX6_wipe 18 = .ok (.aload_n 2, 1) := by decide +kernel
theorem dX6_wipe_19 : decode cX6_wipe 19 = .ok (.getfield 104, 3) := by decide +kernel
theorem dX6_wipe_22 : decode cX6_wipe 22 = .ok (.istore_n 3, 1) := by decide +kernel
theorem dX6_wipe_23 : decode cX6_wipe 23 = .ok (.aload_n 2, 1) := by decide +kernel
theorem dX6_wipe_24 : decode cX6_wipe 24 = .ok (.iconst 0, 1) := by decide +kernel
theorem dX6_wipe_25 : decode cX6_wipe 25 = .ok (.putfield 104, 3) := by decide +kernel
theorem dX6_wipe_28 : decode cX6_wipe 28 = .ok (.aload_n 0, 1) := by decide +kernel
theorem dX6_wipe_29 : decode cX6_wipe 29 = .ok (.invokevirtual 101, 3) := by decide +kernel
theorem dX6_wipe_32 : decode cX6_wipe 32 = .ok (.iload_n 3, 1) := by decide +kernel
theorem dX6_wipe_33 : decode cX6_wipe 33 = .ok (.ireturn, 1) := by decide +kernel
theorem dX6_undo_0 : decode cX6_undo 0 = .ok (.iload_n 1, 1) := by decide +kernel
theorem dX6_undo_1 : decode cX6_undo 1 = .ok (.iconst 0, 1) := by decide +kernel
theorem dX6_undo_2 : decode cX6_undo 2 = .ok (.iconst 1, 1) := by decide +kernel
theorem dX6_undo_3 : decode cX6_undo 3 = .ok (.invokestatic 89, 3) := by decide +kernel
theorem dX6_undo_6 : decode cX6_undo 6 = .ok (.ifCond .ne 6, 3) := by decide +kernel
theorem dX6_undo_9 : decode cX6_undo 9 = .ok (.bipush (-2), 2) := by decide +kernel
theorem dX6_undo_11 : decode cX6_undo 11 = .ok (.ireturn, 1) := by decide +kernel
theorem dX6_undo_12 : decode cX6_undo 12 = .ok (.aload_n 0, 1) := by decide +kernel
theorem dX6_undo_13 : decode cX6_undo 13 = .ok (.iload_n 1, 1) := by decide +kernel
theorem dX6_undo_14 : decode cX6_undo 14 = .ok (.invokevirtual 93, 3) := by decide +kernel
theorem dX6_undo_17 : decode cX6_undo 17 = .ok (.astore_n 2, 1) := by decide +kernel
theorem dX6_undo_18 : decode cX6_undo 18 = .ok (.aload_n 2, 1) := by decide +kernel
theorem dX6_undo_19 : decode cX6_undo 19 = .ok (.getfield 104, 3) := by decide +kernel
theorem dX6_undo_22 : decode cX6_undo 22 = .ok (.ifCond .ne 6, 3) := by decide +kernel
theorem dX6_undo_25 : decode cX6_undo 25 = .ok (.bipush (-3), 2) := by decide +kernel
theorem dX6_undo_27 : decode cX6_undo 27 = .ok (.ireturn, 1) := by decide +kernel
theorem dX6_undo_28 : decode cX6_undo 28 = .ok (.aload_n 2, 1) := by decide +kernel
theorem dX6_undo_29 : decode cX6_undo 29 = .ok (.dup, 1) := by decide +kernel
theorem dX6_undo_30 : decode cX6_undo 30 = .ok (.getfield 104, 3) := by decide +kernel
theorem dX6_undo_33 : decode cX6_undo 33 = .ok (.iconst 1, 1) := by decide +kernel
theorem dX6_undo_34 : decode cX6_undo 34 = .ok (.isub, 1) := by decide +kernel
theorem dX6_undo_35 : decode cX6_undo 35 = .ok (.putfield 104, 3) := by decide +kernel
theorem dX6_undo_38 : decode cX6_undo 38 = .ok (.aload_n 0, 1) := by decide +kernel
theorem dX6_undo_39 : decode cX6_undo 39 = .ok (.invokevirtual 101, 3) := by decide +kernel
theorem dX6_undo_42 : decode cX6_undo 42 = .ok (.aload_n 2, 1) := by decide +kernel
theorem dX6_undo_43 : decode cX6_undo 43 = .ok (.getfield 104, 3) := by decide +kernel
theorem dX6_undo_46 : decode cX6_undo 46 = .ok (.ireturn, 1) := by decide +kernel
theorem dX6_fault_0 : decode cX6_fault 0 = .ok (.iload_n 1, 1) := by decide +kernel
theorem dX6_fault_1 : decode cX6_fault 1 = .ok (.iconst 0, 1) := by decide +kernel
theorem dX6_fault_2 : decode cX6_fault 2 = .ok (.iconst 1, 1) := by decide +kernel
theorem dX6_fault_3 : decode cX6_fault 3 = .ok (.invokestatic 89, 3) := by decide +kernel
theorem dX6_fault_6 : decode cX6_fault 6 = .ok (.ifCond .ne 6, 3) := by decide +kernel
theorem dX6_fault_9 : decode cX6_fault 9 = .ok (.bipush (-2), 2) := by decide +kernel
theorem dX6_fault_11 : decode cX6_fault 11 = .ok (.ireturn, 1) := by decide +kernel
theorem dX6_fault_12 : decode cX6_fault 12 = .ok (.aload_n 0, 1) := by decide +kernel
theorem dX6_fault_13 : decode cX6_fault 13 = .ok (.iload_n 1, 1) := by decide +kernel
theorem dX6_fault_14 : decode cX6_fault 14 = .ok (.invokevirtual 93, 3) := by decide +kernel
theorem dX6_fault_17 : decode cX6_fault 17 = .ok (.invokevirtual 107, 3) := by decide +kernel
theorem dX6_fault_20 : decode cX6_fault 20 = .ok (.ireturn, 1) := by decide +kernel
theorem dX6_player_0 : decode cX6_player 0 = .ok (.aload_n 0, 1) := by decide +kernel
theorem dX6_player_1 : decode cX6_player 1 = .ok (.iload_n 1, 1) := by decide +kernel
theorem dX6_player_2 : decode cX6_player 2 = .ok (.invokevirtual 111, 3) := by decide +kernel
theorem dX6_player_5 : decode cX6_player 5 = .ok (.ifCond .eq 12, 3) := by decide +kernel
theorem dX6_player_8 : decode cX6_player 8 = .ok (.iload_n 2, 1) := by decide +kernel
theorem dX6_player_9 : decode cX6_player 9 = .ok (.iconst 0, 1) := by decide +kernel
theorem dX6_player_10 : decode cX6_player 10 = .ok (.iconst 1, 1) := by decide +kernel
theorem dX6_player_11 : decode cX6_player 11 = .ok (.invokestatic 89, 3) := by decide +kernel
theorem dX6_player_14 : decode cX6_player 14 = .ok (.ifCond .ne 6, 3) := by decide +kernel
theorem dX6_player_17 : decode cX6_player 17 = .ok (.bipush (-2), 2) := by decide +kernel
theorem dX6_player_19 : decode cX6_player 19 = .ok (.ireturn, 1) := by decide +kernel
theorem dX6_player_20 : decode cX6_player 20 = .ok (.iload_n 2, 1) := by decide +kernel
theorem dX6_player_21 : decode cX6_player 21 = .ok (.ifCond .ne 15, 3) := by decide +kernel
theorem dX6_player_24 : decode cX6_player 24 = .ok (.aload_n 0, 1) := by decide +kernel
theorem dX6_player_25 : decode cX6_player 25 = .ok (.getfield 24, 3) := by decide +kernel
theorem dX6_player_28 : decode cX6_player 28 = .ok (.getfield 114, 3) := by decide +kernel
theorem dX6_player_31 : decode cX6_player 31 = .ok (.iload_n 1, 1) := by decide +kernel
theorem dX6_player_32 : decode cX6_player 32 = .ok (.iaload, 1) := by decide +kernel
theorem dX6_player_33 : decode cX6_player 33 = .ok (.goto 12, 3) := by decide +kernel
theorem dX6_player_36 : decode cX6_player 36 = .ok (.aload_n 0, 1) := by decide +kernel
theorem dX6_player_37 : decode cX6_player 37 = .ok (.getfield 24, 3) := by decide +kernel
theorem dX6_player_40 : decode cX6_player 40 = .ok (.getfield 117, 3) := by decide +kernel
theorem dX6_player_43 : decode cX6_player 43 = .ok (.iload_n 1, 1) := by decide +kernel
theorem dX6_player_44 : decode cX6_player 44 = .ok (.iaload, 1) := by decide +kernel
theorem dX6_player_45 : decode cX6_player 45 = .ok (.ireturn, 1) := by decide +kernel
theorem dX6_note_0 : decode cX6_note 0 = .ok (.iload_n 1, 1) := by decide +kernel
theorem dX6_note_1 : decode cX6_note 1 = .ok (.iconst 0, 1) := by decide +kernel
theorem dX6_note_2 : decode cX6_note 2 = .ok (.bipush 15, 2) := by decide +kernel
theorem dX6_note_4 : decode cX6_note 4 = .ok (.invokestatic 89, 3) := by decide +kernel
theorem dX6_note_7 : decode cX6_note 7 = .ok (.ifCond .eq 12, 3) := by decide +kernel
theorem dX6_note_10 : decode cX6_note 10 = .ok (.iload_n 2, 1) := by decide +kernel
theorem dX6_note_11 : decode cX6_note 11 = .ok (.iconst 0, 1) := by decide +kernel
theorem dX6_note_12 : decode cX6_note 12 = .ok (.iconst 1, 1) := by decide +kernel
theorem dX6_note_13 : decode cX6_note 13 = .ok (.invokestatic 89, 3) := by decide +kernel
theorem dX6_note_16 : decode cX6_note 16 = .ok (.ifCond .ne 6, 3) := by decide +kernel
theorem dX6_note_19 : decode cX6_note 19 = .ok (.bipush (-2), 2) := by decide +kernel
theorem dX6_note_21 : decode cX6_note 21 = .ok (.ireturn, 1) := by decide +kernel
theorem dX6_note_22 : decode cX6_note 22 = .ok (.iload_n 1, 1) := by decide +kernel
theorem dX6_note_23 : decode cX6_note 23 = .ok (.aload_n 0, 1) := by decide +kernel
theorem dX6_note_24 : decode cX6_note 24 = .ok (.getfield 24, 3) := by decide +kernel
theorem dX6_note_27 : decode cX6_note 27 = .ok (.getfield 120, 3) := by decide +kernel
theorem dX6_note_30 : decode cX6_note 30 = .ok (.if_icmp .lt 5, 3) := by decide +kernel
theorem dX6_note_33 : decode cX6_note 33 = .ok (.iconst (-1), 1) := by decide +kernel
theorem dX6_note_34 : decode cX6_note 34 = .ok (.ireturn, 1) := by decide +kernel
theorem dX6_note_35 : decode cX6_note 35 = .ok (.iload_n 2, 1) := by decide +kernel
theorem dX6_note_36 : decode cX6_note 36 = .ok (.ifCond .ne 15, 3) := by decide +kernel
theorem dX6_note_39 : decode cX6_note 39 = .ok (.aload_n 0, 1) := by decide +kernel
theorem dX6_note_40 : decode cX6_note 40 = .ok (.getfield 24, 3) := by decide +kernel
theorem dX6_note_43 : decode cX6_note 43 = .ok (.getfield 123, 3) := by decide +kernel
theorem dX6_note_46 : decode cX6_note 46 = .ok (.iload_n 1, 1) := by decide +kernel
theorem dX6_note_47 : decode cX6_note 47 = .ok (.iaload, 1) := by decide +kernel
theorem dX6_note_48 : decode cX6_note 48 = .ok (.goto 12, 3) := by decide +kernel
theorem dX6_note_51 : decode cX6_note 51 = .ok (.aload_n 0, 1) := by decide +kernel
theorem dX6_note_52 : decode cX6_note 52 = .ok (.getfield 24, 3) := by decide +kernel
theorem dX6_note_55 : decode cX6_note 55 = .ok (.getfield 126, 3) := by decide +kernel
theorem dX6_note_58 : decode cX6_note 58 = .ok (.iload_n 1, 1) := by decide +kernel
theorem dX6_note_59 : decode cX6_note 59 = .ok (.iaload, 1) := by decide +kernel
theorem dX6_note_60 : decode cX6_note 60 = .ok (.ireturn, 1) := by decide +kernel
theorem dX6_bag_0 : decode cX6_bag 0 = .ok (.iload_n 1, 1) := by decide +kernel
theorem dX6_bag_1 : decode cX6_bag 1 = .ok (.iconst 1, 1) := by decide +kernel
theorem dX6_bag_2 : decode cX6_bag 2 = .ok (.bipush 99, 2) := by decide +kernel
theorem dX6_bag_4 : decode cX6_bag 4 = .ok (.invokestatic 89, 3) := by decide +kernel
theorem dX6_bag_7 : decode cX6_bag 7 = .ok (.ifCond .ne 6, 3) := by decide +kernel
theorem dX6_bag_10 : decode cX6_bag 10 = .ok (.bipush (-2), 2) := by decide +kernel
theorem dX6_bag_12 : decode cX6_bag 12 = .ok (.ireturn, 1) := by decide +kernel
theorem dX6_bag_13 : decode cX6_bag 13 = .ok (.aload_n 0, 1) := by decide +kernel
theorem dX6_bag_14 : decode cX6_bag 14 = .ok (.getfield 24, 3) := by decide +kernel
theorem dX6_bag_17 : decode cX6_bag 17 = .ok (.getfield 129, 3) := by decide +kernel
theorem dX6_bag_20 : decode cX6_bag 20 = .ok (.istore_n 2, 1) := by decide +kernel
theorem dX6_bag_21 : decode cX6_bag 21 = .ok (.aload_n 0, 1) := by decide +kernel
theorem dX6_bag_22 : decode cX6_bag 22 = .ok (.getfield 24, 3) := by decide +kernel
theorem dX6_bag_25 : decode cX6_bag 25 = .ok (.iload_n 1, 1) := by decide +kernel
theorem dX6_bag_26 : decode cX6_bag 26 = .ok (.putfield 129, 3) := by decide +kernel
theorem dX6_bag_29 : decode cX6_bag 29 = .ok (.aload_n 0, 1) := by decide +kernel
theorem dX6_bag_30 : decode cX6_bag 30 = .ok (.invokevirtual 132, 3) := by decide +kernel
theorem dX6_bag_33 : decode cX6_bag 33 = .ok (.iload_n 2, 1) := by decide +kernel
theorem dX6_bag_34 : decode cX6_bag 34 = .ok (.ireturn, 1) := by decide +kernel
theorem dX6_event_0 : decode cX6_event 0 = .ok (.iload_n 1, 1) := by decide +kernel
theorem dX6_event_1 : decode cX6_event 1 = .ok (.iload_n 2, 1) := by decide +kernel
theorem dX6_event_2 : decode cX6_event 2 = .ok (.invokestatic 135, 3) := by decide +kernel
theorem dX6_event_5 : decode cX6_event 5 = .ok (.ifCond .ne 6, 3) := by decide +kernel
theorem dX6_event_8 : decode cX6_event 8 = .ok (.bipush (-2), 2) := by decide +kernel
theorem dX6_event_10 : decode cX6_event 10 = .ok (.ireturn, 1) := by decide +kernel
theorem dX6_event_11 : decode cX6_event 11 = .ok (.aload_n 0, 1) := by decide +kernel
theorem dX6_event_12 : decode cX6_event 12 = .ok (.getfield 24, 3) := by decide +kernel
theorem dX6_event_15 : decode cX6_event 15 = .ok (.iload_n 1, 1) := by decide +kernel
theorem dX6_event_16 : decode cX6_event 16 = .ok (.iload_n 2, 1) := by decide +kernel
theorem dX6_event_17 : decode cX6_event 17 = .ok (.invokevirtual 139, 3) := by decide +kernel
theorem dX6_event_20 : decode cX6_event 20 = .ok (.ifCond .ne 6, 3) := by decide +kernel
theorem dX6_event_23 : decode cX6_event 23 = .ok (.bipush (-4), 2) := by decide +kernel
theorem dX6_event_25 : decode cX6_event 25 = .ok (.ireturn, 1) := by decide +kernel
theorem dX6_event_26 : decode cX6_event 26 = .ok (.aload_n 0, 1) := by decide +kernel
theorem dX6_event_27 : decode cX6_event 27 = .ok (.invokevirtual 132, 3) := by decide +kernel
theorem dX6_event_30 : decode cX6_event 30 = .ok (.aload_n 0, 1) := by decide +kernel
theorem dX6_event_31 : decode cX6_event 31 = .ok (.getfield 24, 3) := by decide +kernel
theorem dX6_event_34 : decode cX6_event 34 = .ok (.getfield 142, 3) := by decide +kernel
theorem dX6_event_37 : decode cX6_event 37 = .ok (.ireturn, 1) := by decide +kernel
theorem dX6_back_0 : decode cX6_back 0 = .ok (.aload_n 0, 1) := by decide +kernel
theorem dX6_back_1 : decode cX6_back 1 = .ok (.getfield 24, 3) := by decide +kernel
theorem dX6_back_4 : decode cX6_back 4 = .ok (.getfield 142, 3) := by decide +kernel
theorem dX6_back_7 : decode cX6_back 7 = .ok (.ifCond .ne 6, 3) := by decide +kernel
theorem dX6_back_10 : decode cX6_back 10 = .ok (.bipush (-3), 2) := by decide +kernel
theorem dX6_back_12 : decode cX6_back 12 = .ok (.ireturn, 1) := by decide +kernel
theorem dX6_back_13 : decode cX6_back 13 = .ok (.aload_n 0, 1) := by decide +kernel
theorem dX6_back_14 : decode cX6_back 14 = .ok (.getfield 24, 3) := by decide +kernel
theorem dX6_back_17 : decode cX6_back 17 = .ok (.dup, 1) := by decide +kernel
theorem dX6_back_18 : decode cX6_back 18 = .ok (.getfield 142, 3) := by decide +kernel
theorem dX6_back_21 : decode cX6_back 21 = .ok (.iconst 1, 1) := by decide +kernel
theorem dX6_back_22 : decode cX6_back 22 = .ok (.isub, 1) := by decide +kernel
theorem dX6_back_23 : decode cX6_back 23 = .ok (.putfield 142, 3) := by decide +kernel
theorem dX6_back_26 : decode cX6_back 26 = .ok (.aload_n 0, 1) := by decide +kernel
theorem dX6_back_27 : decode cX6_back 27 = .ok (.invokevirtual 132, 3) := by decide +kernel
theorem dX6_back_30 : decode cX6_back 30 = .ok (.aload_n 0, 1) := by decide +kernel
theorem dX6_back_31 : decode cX6_back 31 = .ok (.getfield 24, 3) := by decide +kernel
theorem dX6_back_34 : decode cX6_back 34 = .ok (.getfield 142, 3) := by decide +kernel
theorem dX6_back_37 : decode cX6_back 37 = .ok (.ireturn, 1) := by decide +kernel
theorem dX6_read_0 : decode cX6_read 0 = .ok (.iload_n 1, 1) := by decide +kernel
theorem dX6_read_1 : decode cX6_read 1 = .ok (.iconst 0, 1) := by decide +kernel
theorem dX6_read_2 : decode cX6_read 2 = .ok (.iconst 3, 1) := by decide +kernel
theorem dX6_read_3 : decode cX6_read 3 = .ok (.invokestatic 89, 3) := by decide +kernel
theorem dX6_read_6 : decode cX6_read 6 = .ok (.ifCond .ne 6, 3) := by decide +kernel
theorem dX6_read_9 : decode cX6_read 9 = .ok (.bipush (-2), 2) := by decide +kernel
theorem dX6_read_11 : decode cX6_read 11 = .ok (.ireturn, 1) := by decide +kernel
theorem dX6_read_12 : decode cX6_read 12 = .ok (.aload_n 0, 1) := by decide +kernel
theorem dX6_read_13 : decode cX6_read 13 = .ok (.getfield 73, 3) := by decide +kernel
theorem dX6_read_16 : decode cX6_read 16 = .ok (.iload_n 1, 1) := by decide +kernel
theorem dX6_read_17 : decode cX6_read 17 = .ok (.aaload, 1) := by decide +kernel
theorem dX6_read_18 : decode cX6_read 18 = .ok (.astore_n 2, 1) := by decide +kernel
theorem dX6_read_19 : decode cX6_read 19 = .ok (.aload_n 2, 1) := by decide +kernel
theorem dX6_read_20 : decode cX6_read 20 = .ok (.getfield 145, 3) := by decide +kernel
theorem dX6_read_23 : decode cX6_read 23 = .ok (.ifCond .eq 9, 3) := by decide +kernel
theorem dX6_read_26 : decode cX6_read 26 = .ok (.aload_n 0, 1) := by decide +kernel
theorem dX6_read_27 : decode cX6_read 27 = .ok (.iconst 1, 1) := by decide +kernel
theorem dX6_read_28 : decode cX6_read 28 = .ok (.invokevirtual 148, 3) := by decide +kernel
theorem dX6_read_31 : decode cX6_read 31 = .ok (.ireturn, 1) := by decide +kernel
theorem dX6_read_32 : decode cX6_read 32 = .ok (.aload_n 0, 1) := by decide +kernel
theorem dX6_read_33 : decode cX6_read 33 = .ok (.getfield 24, 3) := by decide +kernel
theorem dX6_read_36 : decode cX6_read 36 = .ok (.getfield 142, 3) := by decide +kernel
theorem dX6_read_39 : decode cX6_read 39 = .ok (.istore_n 3, 1) := by decide +kernel
theorem dX6_read_40 : decode cX6_read 40 = .ok (.iconst 0, 1) := by decide +kernel
theorem dX6_read_41 : decode cX6_read 41 = .ok (.istore 4, 2) := by decide +kernel
theorem dX6_read_43 : decode cX6_read 43 = .ok (.iload 4, 2) := by decide +kernel
theorem dX6_read_45 : decode cX6_read 45 = .ok (.iconst 1, 1) := by decide +kernel
theorem dX6_read_46 : decode cX6_read 46 = .ok (.iadd, 1) := by decide +kernel
theorem dX6_read_47 : decode cX6_read 47 = .ok (.aload_n 2, 1) := by decide +kernel
theorem dX6_read_48 : decode cX6_read 48 = .ok (.getfield 152, 3) := by decide +kernel
theorem dX6_read_51 : decode cX6_read 51 = .ok (.if_icmp .ge 46, 3) := by decide +kernel
theorem dX6_read_54 : decode cX6_read 54 = .ok (.aload_n 2, 1) := by decide +kernel
theorem dX6_read_55 : decode cX6_read 55 = .ok (.getfield 153, 3) := by decide +kernel
theorem dX6_read_58 : decode cX6_read 58 = .ok (.iload 4, 2) := by decide +kernel
theorem dX6_read_60 : decode cX6_read 60 = .ok (.iaload, 1) := by decide +kernel
theorem dX6_read_61 : decode cX6_read 61 = .ok (.istore 5, 2) := by decide +kernel
theorem dX6_read_63 : decode cX6_read 63 = .ok (.aload_n 2, 1) := by decide +kernel
theorem dX6_read_64 : decode cX6_read 64 = .ok (.getfield 153, 3) := by decide +kernel
theorem dX6_read_67 : decode cX6_read 67 = .ok (.iload 4, 2) := by decide +kernel
theorem dX6_read_69 : decode cX6_read 69 = .ok (.iconst 1, 1) := by decide +kernel
theorem dX6_read_70 : decode cX6_read 70 = .ok (.iadd, 1) := by decide +kernel
theorem dX6_read_71 : decode cX6_read 71 = .ok (.iaload, 1) := by decide +kernel
theorem dX6_read_72 : decode cX6_read 72 = .ok (.istore 6, 2) := by decide +kernel
theorem dX6_read_74 : decode cX6_read 74 = .ok (.aload_n 0, 1) := by decide +kernel
theorem dX6_read_75 : decode cX6_read 75 = .ok (.getfield 24, 3) := by decide +kernel
theorem dX6_read_78 : decode cX6_read 78 = .ok (.iload 5, 2) := by decide +kernel
theorem dX6_read_80 : decode cX6_read 80 = .ok (.iload 6, 2) := by decide +kernel
theorem dX6_read_82 : decode cX6_read 82 = .ok (.invokevirtual 139, 3) := by decide +kernel
theorem dX6_read_85 : decode cX6_read 85 = .ok (.ifCond .ne 6, 3) := by decide +kernel
theorem dX6_read_88 : decode cX6_read 88 = .ok (.goto 9, 3) := by decide +kernel
theorem dX6_read_91 : decode cX6_read 91 = .ok (.iinc 4 2, 3) := by decide +kernel
theorem dX6_read_94 : decode cX6_read 94 = .ok (.goto (-51), 3) := by decide +kernel
theorem dX6_read_97 : decode cX6_read 97 = .ok (.aload_n 0, 1) := by decide +kernel
theorem dX6_read_98 : decode cX6_read 98 = .ok (.invokevirtual 132, 3) := by decide +kernel
theorem dX6_read_101 : decode cX6_read 101 = .ok (.aload_n 0, 1) := by decide +kernel
theorem dX6_read_102 : decode cX6_read 102 = .ok (.getfield 24, 3) := by decide +kernel
theorem dX6_read_105 : decode cX6_read 105 = .ok (.getfield 142, 3) := by decide +kernel
theorem dX6_read_108 : decode cX6_read 108 = .ok (.iload_n 3, 1) := by decide +kernel
theorem dX6_read_109 : decode cX6_read 109 = .ok (.isub, 1) := by decide +kernel
theorem dX6_read_110 : decode cX6_read 110 = .ok (.ireturn, 1) := by decide +kernel
theorem dX6_at_0 : decode cX6_at 0 = .ok (.iload_n 1, 1) := by decide +kernel
theorem dX6_at_1 : decode cX6_at 1 = .ok (.iconst 0, 1) := by decide +kernel
theorem dX6_at_2 : decode cX6_at 2 = .ok (.bipush 23, 2) := by decide +kernel
theorem dX6_at_4 : decode cX6_at 4 = .ok (.invokestatic 89, 3) := by decide +kernel
theorem dX6_at_7 : decode cX6_at 7 = .ok (.ifCond .eq 12, 3) := by decide +kernel
theorem dX6_at_10 : decode cX6_at 10 = .ok (.iload_n 2, 1) := by decide +kernel
theorem dX6_at_11 : decode cX6_at 11 = .ok (.iconst 0, 1) := by decide +kernel
theorem dX6_at_12 : decode cX6_at 12 = .ok (.iconst 2, 1) := by decide +kernel
theorem dX6_at_13 : decode cX6_at 13 = .ok (.invokestatic 89, 3) := by decide +kernel
theorem dX6_at_16 : decode cX6_at 16 = .ok (.ifCond .ne 6, 3) := by decide +kernel
theorem dX6_at_19 : decode cX6_at 19 = .ok (.bipush (-2), 2) := by decide +kernel
theorem dX6_at_21 : decode cX6_at 21 = .ok (.ireturn, 1) := by decide +kernel
theorem dX6_at_22 : decode cX6_at 22 = .ok (.aload_n 0, 1) := by decide +kernel
theorem dX6_at_23 : decode cX6_at 23 = .ok (.invokevirtual 156, 3) := by decide +kernel
theorem dX6_at_26 : decode cX6_at 26 = .ok (.astore_n 3, 1) := by decide +kernel
theorem dX6_at_27 : decode cX6_at 27 = .ok (.iload_n 2, 1) := by decide +kernel
theorem dX6_at_28 : decode cX6_at 28 = .ok (.ifCond .ne 10, 3) := by decide +kernel
theorem dX6_at_31 : decode cX6_at 31 = .ok (.aload_n 3, 1) := by decide +kernel
theorem dX6_at_32 : decode cX6_at 32 = .ok (.getfield 160, 3) := by decide +kernel
theorem dX6_at_35 : decode cX6_at 35 = .ok (.iload_n 1, 1) := by decide +kernel
theorem dX6_at_36 : decode cX6_at 36 = .ok (.iaload, 1) := by decide +kernel
theorem dX6_at_37 : decode cX6_at 37 = .ok (.ireturn, 1) := by decide +kernel
theorem dX6_at_38 : decode cX6_at 38 = .ok (.iload_n 2, 1) := by decide +kernel
theorem dX6_at_39 : decode cX6_at 39 = .ok (.iconst 1, 1) := by decide +kernel
theorem dX6_at_40 : decode cX6_at 40 = .ok (.if_icmp .ne 12, 3) := by decide +kernel
theorem dX6_at_43 : decode cX6_at 43 = .ok (.aload_n 3, 1) := by decide +kernel
theorem dX6_at_44 : decode cX6_at 44 = .ok (.getfield 163, 3) := by decide +kernel
theorem dX6_at_47 : decode cX6_at 47 = .ok (.iload_n 1, 1) := by decide +kernel
theorem dX6_at_48 : decode cX6_at 48 = .ok (.iaload, 1) := by decide +kernel
theorem dX6_at_49 : decode cX6_at 49 = .ok (.goto 9, 3) := by decide +kernel
theorem dX6_at_52 : decode cX6_at 52 = .ok (.aload_n 3, 1) := by decide +kernel
theorem dX6_at_53 : decode cX6_at 53 = .ok (.getfield 166, 3) := by decide +kernel
theorem dX6_at_56 : decode cX6_at 56 = .ok (.iload_n 1, 1) := by decide +kernel
theorem dX6_at_57 : decode cX6_at 57 = .ok (.iaload, 1) := by decide +kernel
theorem dX6_at_58 : decode cX6_at 58 = .ok (.ireturn, 1) := by decide +kernel
theorem dX6_heard_0 : decode cX6_heard 0 = .ok (.aload_n 0, 1) := by decide +kernel
theorem dX6_heard_1 : decode cX6_heard 1 = .ok (.iload_n 1, 1) := by decide +kernel
theorem dX6_heard_2 : decode cX6_heard 2 = .ok (.invokevirtual 169, 3) := by decide +kernel
theorem dX6_heard_5 : decode cX6_heard 5 = .ok (.ifCond .ne 6, 3) := by decide +kernel
theorem dX6_heard_8 : decode cX6_heard 8 = .ok (.bipush (-2), 2) := by decide +kernel
theorem dX6_heard_10 : decode cX6_heard 10 = .ok (.ireturn, 1) := by decide +kernel
theorem dX6_heard_11 : decode cX6_heard 11 = .ok (.aload_n 0, 1) := by decide +kernel
theorem dX6_heard_12 : decode cX6_heard 12 = .ok (.invokevirtual 156, 3) := by decide +kernel
theorem dX6_heard_15 : decode cX6_heard 15 = .ok (.getfield 172, 3) := by decide +kernel
theorem dX6_heard_18 : decode cX6_heard 18 = .ok (.iload_n 1, 1) := by decide +kernel
theorem dX6_heard_19 : decode cX6_heard 19 = .ok (.iaload, 1) := by decide +kernel
theorem dX6_heard_20 : decode cX6_heard 20 = .ok (.ireturn, 1) := by decide +kernel
theorem dX6_takes_0 : decode cX6_takes 0 = .ok (.aload_n 0, 1) := by decide +kernel
theorem dX6_takes_1 : decode cX6_takes 1 = .ok (.iload_n 1, 1) := by decide +kernel
theorem dX6_takes_2 : decode cX6_takes 2 = .ok (.invokevirtual 111, 3) := by decide +kernel
theorem dX6_takes_5 : decode cX6_takes 5 = .ok (.ifCond .eq 12, 3) := by decide +kernel
theorem dX6_takes_8 : decode cX6_takes 8 = .ok (.iload_n 2, 1) := by decide +kernel
theorem dX6_takes_9 : decode cX6_takes 9 = .ok (.iconst 0, 1) := by decide +kernel
theorem dX6_takes_10 : decode cX6_takes 10 = .ok (.iconst 2, 1) := by decide +kernel
theorem dX6_takes_11 : decode cX6_takes 11 = .ok (.invokestatic 89, 3) := by decide +kernel
theorem dX6_takes_14 : decode cX6_takes 14 = .ok (.ifCond .ne 6, 3) := by decide +kernel
theorem dX6_takes_17 : decode cX6_takes 17 = .ok (.bipush (-2), 2) := by decide +kernel
theorem dX6_takes_19 : decode cX6_takes 19 = .ok (.ireturn, 1) := by decide +kernel
theorem dX6_takes_20 : decode cX6_takes 20 = .ok (.aload_n 0, 1) := by decide +kernel
theorem dX6_takes_21 : decode cX6_takes 21 = .ok (.invokevirtual 156, 3) := by decide +kernel
theorem dX6_takes_24 : decode cX6_takes 24 = .ok (.astore_n 3, 1) := by decide +kernel
theorem dX6_takes_25 : decode cX6_takes 25 = .ok (.iload_n 2, 1) := by decide +kernel
theorem dX6_takes_26 : decode cX6_takes 26 = .ok (.ifCond .ne 10, 3) := by decide +kernel
theorem dX6_takes_29 : decode cX6_takes 29 = .ok (.aload_n 3, 1) := by decide +kernel
theorem dX6_takes_30 : decode cX6_takes 30 = .ok (.getfield 175, 3) := by decide +kernel
theorem dX6_takes_33 : decode cX6_takes 33 = .ok (.iload_n 1, 1) := by decide +kernel
theorem dX6_takes_34 : decode cX6_takes 34 = .ok (.iaload, 1) := by decide +kernel
theorem dX6_takes_35 : decode cX6_takes 35 = .ok (.ireturn, 1) := by decide +kernel
theorem dX6_takes_36 : decode cX6_takes 36 = .ok (.iload_n 2, 1) := by decide +kernel
theorem dX6_takes_37 : decode cX6_takes 37 = .ok (.iconst 1, 1) := by decide +kernel
theorem dX6_takes_38 : decode cX6_takes 38 = .ok (.if_icmp .ne 12, 3) := by decide +kernel
theorem dX6_takes_41 : decode cX6_takes 41 = .ok (.aload_n 3, 1) := by decide +kernel
theorem dX6_takes_42 : decode cX6_takes 42 = .ok (.getfield 178, 3) := by decide +kernel
theorem dX6_takes_45 : decode cX6_takes 45 = .ok (.iload_n 1, 1) := by decide +kernel
theorem dX6_takes_46 : decode cX6_takes 46 = .ok (.iaload, 1) := by decide +kernel
theorem dX6_takes_47 : decode cX6_takes 47 = .ok (.goto 9, 3) := by decide +kernel
theorem dX6_takes_50 : decode cX6_takes 50 = .ok (.aload_n 3, 1) := by decide +kernel
theorem dX6_takes_51 : decode cX6_takes 51 = .ok (.getfield 181, 3) := by decide +kernel
theorem dX6_takes_54 : decode cX6_takes 54 = .ok (.iload_n 1, 1) := by decide +kernel
theorem dX6_takes_55 : decode cX6_takes 55 = .ok (.iaload, 1) := by decide +kernel
theorem dX6_takes_56 : decode cX6_takes 56 = .ok (.ireturn, 1) := by decide +kernel
theorem dX6_sum_0 : decode cX6_sum 0 = .ok (.iload_n 1, 1) := by decide +kernel
theorem dX6_sum_1 : decode cX6_sum 1 = .ok (.iconst 0, 1) := by decide +kernel
theorem dX6_sum_2 : decode cX6_sum 2 = .ok (.iconst 2, 1) := by decide +kernel
theorem dX6_sum_3 : decode cX6_sum 3 = .ok (.invokestatic 89, 3) := by decide +kernel
theorem dX6_sum_6 : decode cX6_sum 6 = .ok (.ifCond .ne 6, 3) := by decide +kernel
theorem dX6_sum_9 : decode cX6_sum 9 = .ok (.bipush (-2), 2) := by decide +kernel
theorem dX6_sum_11 : decode cX6_sum 11 = .ok (.ireturn, 1) := by decide +kernel
theorem dX6_sum_12 : decode cX6_sum 12 = .ok (.aload_n 0, 1) := by decide +kernel
theorem dX6_sum_13 : decode cX6_sum 13 = .ok (.invokevirtual 156, 3) := by decide +kernel
theorem dX6_sum_16 : decode cX6_sum 16 = .ok (.astore_n 2, 1) := by decide +kernel
theorem dX6_sum_17 : decode cX6_sum 17 = .ok (.iload_n 1, 1) := by decide +kernel
theorem dX6_sum_18 : decode cX6_sum 18 = .ok (.ifCond .ne 8, 3) := by decide +kernel
theorem dX6_sum_21 : decode cX6_sum 21 = .ok (.aload_n 2, 1) := by decide +kernel
theorem dX6_sum_22 : decode cX6_sum 22 = .ok (.getfield 184, 3) := by decide +kernel
theorem dX6_sum_25 : decode cX6_sum 25 = .ok (.ireturn, 1) := by decide +kernel
theorem dX6_sum_26 : decode cX6_sum 26 = .ok (.iload_n 1, 1) := by decide +kernel
theorem dX6_sum_27 : decode cX6_sum 27 = .ok (.iconst 1, 1) := by decide +kernel
theorem dX6_sum_28 : decode cX6_sum 28 = .ok (.if_icmp .ne 10, 3) := by decide +kernel
theorem dX6_sum_31 : decode cX6_sum 31 = .ok (.aload_n 2, 1) := by decide +kernel
theorem dX6_sum_32 : decode cX6_sum 32 = .ok (.getfield 187, 3) := by decide +kernel
theorem dX6_sum_35 : decode cX6_sum 35 = .ok (.goto 7, 3) := by decide +kernel
theorem dX6_sum_38 : decode cX6_sum 38 = .ok (.aload_n 2, 1) := by decide +kernel
theorem dX6_sum_39 : decode cX6_sum 39 = .ok (.getfield 190, 3) := by decide +kernel
theorem dX6_sum_42 : decode cX6_sum 42 = .ok (.ireturn, 1) := by decide +kernel
theorem dX6_flat_0 : decode cX6_flat 0 = .ok (.aload_n 0, 1) := by decide +kernel
theorem dX6_flat_1 : decode cX6_flat 1 = .ok (.invokevirtual 156, 3) := by decide +kernel
theorem dX6_flat_4 : decode cX6_flat 4 = .ok (.astore_n 1, 1) := by decide +kernel
theorem dX6_flat_5 : decode cX6_flat 5 = .ok (.iconst 0, 1) := by decide +kernel
theorem dX6_flat_6 : decode cX6_flat 6 = .ok (.istore_n 2, 1) := by decide +kernel
theorem dX6_flat_7 : decode cX6_flat 7 = .ok (.iload_n 2, 1) := by decide +kernel
theorem dX6_flat_8 : decode cX6_flat 8 = .ok (.bipush 24, 2) := by decide +kernel
theorem dX6_flat_10 : decode cX6_flat 10 = .ok (.if_icmp .ge 20, 3) := by decide +kernel
theorem dX6_flat_13 : decode cX6_flat 13 = .ok (.aload_n 1, 1) := by decide +kernel
theorem dX6_flat_14 : decode cX6_flat 14 = .ok (.getfield 163, 3) := by decide +kernel
theorem dX6_flat_17 : decode cX6_flat 17 = .ok (.iload_n 2, 1) := by decide +kernel
theorem dX6_flat_18 : decode cX6_flat 18 = .ok (.iaload, 1) := by decide +kernel
theorem dX6_flat_19 : decode cX6_flat 19 = .ok (.ifCond .ne 5, 3) := by decide +kernel
theorem dX6_flat_22 : decode cX6_flat 22 = .ok (.iload_n 2, 1) := by decide +kernel
theorem dX6_flat_23 : decode cX6_flat 23 = .ok (.ireturn, 1) := by decide +kernel
theorem dX6_flat_24 : decode cX6_flat 24 = .ok (.iinc 2 1, 3) := by decide +kernel
theorem dX6_flat_27 : decode cX6_flat 27 = .ok (.goto (-20), 3) := by decide +kernel
theorem dX6_flat_30 : decode cX6_flat 30 = .ok (.iconst (-1), 1) := by decide +kernel
theorem dX6_flat_31 : decode cX6_flat 31 = .ok (.ireturn, 1) := by decide +kernel
theorem dX6_silent_0 : decode cX6_silent 0 = .ok (.aload_n 0, 1) := by decide +kernel
theorem dX6_silent_1 : decode cX6_silent 1 = .ok (.invokevirtual 156, 3) := by decide +kernel
theorem dX6_silent_4 : decode cX6_silent 4 = .ok (.astore_n 1, 1) := by decide +kernel
theorem dX6_silent_5 : decode cX6_silent 5 = .ok (.iconst 0, 1) := by decide +kernel
theorem dX6_silent_6 : decode cX6_silent 6 = .ok (.istore_n 2, 1) := by decide +kernel
theorem dX6_silent_7 : decode cX6_silent 7 = .ok (.iconst 0, 1) := by decide +kernel
theorem dX6_silent_8 : decode cX6_silent 8 = .ok (.istore_n 3, 1) := by decide +kernel
theorem dX6_silent_9 : decode cX6_silent 9 = .ok (.iload_n 3, 1) := by decide +kernel
theorem dX6_silent_10 : decode cX6_silent 10 = .ok (.aload_n 0, 1) := by decide +kernel
theorem dX6_silent_11 : decode cX6_silent 11 = .ok (.getfield 24, 3) := by decide +kernel
theorem dX6_silent_14 : decode cX6_silent 14 = .ok (.getfield 193, 3) := by decide +kernel
theorem dX6_silent_17 : decode cX6_silent 17 = .ok (.if_icmp .ge 24, 3) := by decide +kernel
theorem dX6_silent_20 : decode cX6_silent 20 = .ok (.aload_n 1, 1) := by decide +kernel
theorem dX6_silent_21 : decode cX6_silent 21 = .ok (.getfield 175, 3) := by decide +kernel
theorem dX6_silent_24 : decode cX6_silent 24 = .ok (.iload_n 3, 1) := by decide +kernel
theorem dX6_silent_25 : decode cX6_silent 25 = .ok (.iaload, 1) := by decide +kernel
theorem dX6_silent_26 : decode cX6_silent 26 = .ok (.ifCond .ne 9, 3) := by decide +kernel
theorem dX6_silent_29 : decode cX6_silent 29 = .ok (.iload_n 2, 1) := by decide +kernel
theorem dX6_silent_30 : decode cX6_silent 30 = .ok (.iconst 1, 1) := by decide +kernel
theorem dX6_silent_31 : decode cX6_silent 31 = .ok (.iload_n 3, 1) := by decide +kernel
theorem dX6_silent_32 : decode cX6_silent 32 = .ok (.ishl, 1) := by decide +kernel
theorem dX6_silent_33 : decode cX6_silent 33 = .ok (.ior, 1) := by decide +kernel
theorem dX6_silent_34 : decode cX6_silent 34 = .ok (.istore_n 2, 1) := by decide +kernel
theorem dX6_silent_35 : decode cX6_silent 35 = .ok (.iinc 3 1, 3) := by decide +kernel
theorem dX6_silent_38 : decode cX6_silent 38 = .ok (.goto (-29), 3) := by decide +kernel
theorem dX6_silent_41 : decode cX6_silent 41 = .ok (.iload_n 2, 1) := by decide +kernel
theorem dX6_silent_42 : decode cX6_silent 42 = .ok (.ireturn, 1) := by decide +kernel
theorem dX6_greedy_0 : decode cX6_greedy 0 = .ok (.aload_n 0, 1) := by decide +kernel
theorem dX6_greedy_1 : decode cX6_greedy 1 = .ok (.invokevirtual 156, 3) := by decide +kernel
theorem dX6_greedy_4 : decode cX6_greedy 4 = .ok (.astore_n 1, 1) := by decide +kernel
theorem dX6_greedy_5 : decode cX6_greedy 5 = .ok (.iconst (-1), 1) := by decide +kernel
theorem dX6_greedy_6 : decode cX6_greedy 6 = .ok (.istore_n 2, 1) := by decide +kernel
theorem dX6_greedy_7 : decode cX6_greedy 7 = .ok (.iconst 0, 1) := by decide +kernel
theorem dX6_greedy_8 : decode cX6_greedy 8 = .ok (.istore_n 3, 1) := by decide +kernel
theorem dX6_greedy_9 : decode cX6_greedy 9 = .ok (.iconst 0, 1) := by decide +kernel
theorem dX6_greedy_10 : decode cX6_greedy 10 = .ok (.istore 4, 2) := by decide +kernel
theorem dX6_greedy_12 : decode cX6_greedy 12 = .ok (.iload 4, 2) := by decide +kernel
theorem dX6_greedy_14 : decode cX6_greedy 14 = .ok (.aload_n 0, 1) := by decide +kernel
theorem dX6_greedy_15 : decode cX6_greedy 15 = .ok (.getfield 24, 3) := by decide +kernel
theorem dX6_greedy_18 : decode cX6_greedy 18 = .ok (.getfield 193, 3) := by decide +kernel
theorem dX6_greedy_21 : decode cX6_greedy 21 = .ok (.if_icmp .ge 31, 3) := by decide +kernel
theorem dX6_greedy_24 : decode cX6_greedy 24 = .ok (.aload_n 1, 1) := by decide +kernel
theorem dX6_greedy_25 : decode cX6_greedy 25 = .ok (.getfield 178, 3) := by decide +kernel
theorem dX6_greedy_28 : decode cX6_greedy 28 = .ok (.iload 4, 2) := by decide +kernel
theorem dX6_greedy_30 : decode cX6_greedy 30 = .ok (.iaload, 1) := by decide +kernel
theorem dX6_greedy_31 : decode cX6_greedy 31 = .ok (.iload_n 3, 1) := by decide +kernel
theorem dX6_greedy_32 : decode cX6_greedy 32 = .ok (.if_icmp .le 14, 3) := by decide +kernel
theorem dX6_greedy_35 : decode cX6_greedy 35 = .ok (.aload_n 1, 1) := by decide +kernel
theorem dX6_greedy_36 : decode cX6_greedy 36 = .ok (.getfield 178, 3) := by decide +kernel
theorem dX6_greedy_39 : decode cX6_greedy 39 = .ok (.iload 4, 2) := by decide +kernel
theorem dX6_greedy_41 : decode cX6_greedy 41 = .ok (.iaload, 1) := by decide +kernel
theorem dX6_greedy_42 : decode cX6_greedy 42 = .ok (.istore_n 3, 1) := by decide +kernel
theorem dX6_greedy_43 : decode cX6_greedy 43 = .ok (.iload 4, 2) := by decide +kernel
theorem dX6_greedy_45 : decode cX6_greedy 45 = .ok (.istore_n 2, 1) := by decide +kernel
theorem dX6_greedy_46 : decode cX6_greedy 46 = .ok (.iinc 4 1, 3) := by decide +kernel
theorem dX6_greedy_49 : decode cX6_greedy 49 = .ok (.goto (-37), 3) := by decide +kernel
theorem dX6_greedy_52 : decode cX6_greedy 52 = .ok (.iload_n 2, 1) := by decide +kernel
theorem dX6_greedy_53 : decode cX6_greedy 53 = .ok (.ireturn, 1) := by decide +kernel
theorem dX6_fill_0 : decode cX6_fill 0 = .ok (.iload_n 1, 1) := by decide +kernel
theorem dX6_fill_1 : decode cX6_fill 1 = .ok (.iconst 0, 1) := by decide +kernel
theorem dX6_fill_2 : decode cX6_fill 2 = .ok (.iconst 1, 1) := by decide +kernel
theorem dX6_fill_3 : decode cX6_fill 3 = .ok (.invokestatic 89, 3) := by decide +kernel
theorem dX6_fill_6 : decode cX6_fill 6 = .ok (.ifCond .ne 6, 3) := by decide +kernel
theorem dX6_fill_9 : decode cX6_fill 9 = .ok (.bipush (-2), 2) := by decide +kernel
theorem dX6_fill_11 : decode cX6_fill 11 = .ok (.ireturn, 1) := by decide +kernel
theorem dX6_fill_12 : decode cX6_fill 12 = .ok (.aload_n 0, 1) := by decide +kernel
theorem dX6_fill_13 : decode cX6_fill 13 = .ok (.getfield 51, 3) := by decide +kernel
theorem dX6_fill_16 : decode cX6_fill 16 = .ok (.getfield 196, 3) := by decide +kernel
theorem dX6_fill_19 : decode cX6_fill 19 = .ok (.ifCond .ne 7, 3) := by decide +kernel
theorem dX6_fill_22 : decode cX6_fill 22 = .ok (.aload_n 0, 1) := by decide +kernel
theorem dX6_fill_23 : decode cX6_fill 23 = .ok (.invokevirtual 199, 3) := by decide +kernel
theorem dX6_fill_26 : decode cX6_fill 26 = .ok (.iload_n 1, 1) := by decide +kernel
theorem dX6_fill_27 : decode cX6_fill 27 = .ok (.ifCond .ne 13, 3) := by decide +kernel
theorem dX6_fill_30 : decode cX6_fill 30 = .ok (.aload_n 0, 1) := by decide +kernel
theorem dX6_fill_31 : decode cX6_fill 31 = .ok (.getfield 51, 3) := by decide +kernel
theorem dX6_fill_34 : decode cX6_fill 34 = .ok (.getfield 202, 3) := by decide +kernel
theorem dX6_fill_37 : decode cX6_fill 37 = .ok (.goto 10, 3) := by decide +kernel
theorem dX6_fill_40 : decode cX6_fill 40 = .ok (.aload_n 0, 1) := by decide +kernel
theorem dX6_fill_41 : decode cX6_fill 41 = .ok (.getfield 51, 3) := by decide +kernel
theorem dX6_fill_44 : decode cX6_fill 44 = .ok (.getfield 205, 3) := by decide +kernel
theorem dX6_fill_47 : decode cX6_fill 47 = .ok (.ireturn, 1) := by decide +kernel
theorem dX6_swap_0 : decode cX6_swap 0 = .ok (.iload_n 1, 1) := by decide +kernel
theorem dX6_swap_1 : decode cX6_swap 1 = .ok (.iconst 0, 1) := by decide +kernel
theorem dX6_swap_2 : decode cX6_swap 2 = .ok (.iconst 2, 1) := by decide +kernel
theorem dX6_swap_3 : decode cX6_swap 3 = .ok (.invokestatic 89, 3) := by decide +kernel
theorem dX6_swap_6 : decode cX6_swap 6 = .ok (.ifCond .ne 6, 3) := by decide +kernel
theorem dX6_swap_9 : decode cX6_swap 9 = .ok (.bipush (-2), 2) := by decide +kernel
theorem dX6_swap_11 : decode cX6_swap 11 = .ok (.ireturn, 1) := by decide +kernel
theorem dX6_swap_12 : decode cX6_swap 12 = .ok (.aload_n 0, 1) := by decide +kernel
theorem dX6_swap_13 : decode cX6_swap 13 = .ok (.getfield 55, 3) := by decide +kernel
theorem dX6_swap_16 : decode cX6_swap 16 = .ok (.getfield 196, 3) := by decide +kernel
theorem dX6_swap_19 : decode cX6_swap 19 = .ok (.ifCond .ne 7, 3) := by decide +kernel
theorem dX6_swap_22 : decode cX6_swap 22 = .ok (.aload_n 0, 1) := by decide +kernel
theorem dX6_swap_23 : decode cX6_swap 23 = .ok (.invokevirtual 208, 3) := by decide +kernel
theorem dX6_swap_26 : decode cX6_swap 26 = .ok (.iload_n 1, 1) := by decide +kernel
theorem dX6_swap_27 : decode cX6_swap 27 = .ok (.ifCond .ne 11, 3) := by decide +kernel
theorem dX6_swap_30 : decode cX6_swap 30 = .ok (.aload_n 0, 1) := by decide +kernel
theorem dX6_swap_31 : decode cX6_swap 31 = .ok (.getfield 55, 3) := by decide +kernel
theorem dX6_swap_34 : decode cX6_swap 34 = .ok (.getfield 202, 3) := by decide +kernel
theorem dX6_swap_37 : decode cX6_swap 37 = .ok (.ireturn, 1) := by decide +kernel
theorem dX6_swap_38 : decode cX6_swap 38 = .ok (.iload_n 1, 1) := by decide +kernel
theorem dX6_swap_39 : decode cX6_swap 39 = .ok (.iconst 1, 1) := by decide +kernel
theorem dX6_swap_40 : decode cX6_swap 40 = .ok (.if_icmp .ne 13, 3) := by decide +kernel
theorem dX6_swap_43 : decode cX6_swap 43 = .ok (.aload_n 0, 1) := by decide +kernel
theorem dX6_swap_44 : decode cX6_swap 44 = .ok (.getfield 55, 3) := by decide +kernel
theorem dX6_swap_47 : decode cX6_swap 47 = .ok (.getfield 211, 3) := by decide +kernel
theorem dX6_swap_50 : decode cX6_swap 50 = .ok (.goto 10, 3) := by decide +kernel
theorem dX6_swap_53 : decode cX6_swap 53 = .ok (.aload_n 0, 1) := by decide +kernel
theorem dX6_swap_54 : decode cX6_swap 54 = .ok (.getfield 55, 3) := by decide +kernel
theorem dX6_swap_57 : decode cX6_swap 57 = .ok (.getfield 205, 3) := by decide +kernel
theorem dX6_swap_60 : decode cX6_swap 60 = .ok (.ireturn, 1) := by decide +kernel
theorem dX6_hold_0 : decode cX6_hold 0 = .ok (.iload_n 1, 1) := by decide +kernel
theorem dX6_hold_1 : decode cX6_hold 1 = .ok (.iconst 0, 1) := by decide +kernel
theorem dX6_hold_2 : decode cX6_hold 2 = .ok (.iconst 1, 1) := by decide +kernel
theorem dX6_hold_3 : decode cX6_hold 3 = .ok (.invokestatic 89, 3) := by decide +kernel
theorem dX6_hold_6 : decode cX6_hold 6 = .ok (.ifCond .ne 6, 3) := by decide +kernel
theorem dX6_hold_9 : decode cX6_hold 9 = .ok (.bipush (-2), 2) := by decide +kernel
theorem dX6_hold_11 : decode cX6_hold 11 = .ok (.ireturn, 1) := by decide +kernel
theorem dX6_hold_12 : decode cX6_hold 12 = .ok (.aload_n 0, 1) := by decide +kernel
theorem dX6_hold_13 : decode cX6_hold 13 = .ok (.getfield 58, 3) := by decide +kernel
theorem dX6_hold_16 : decode cX6_hold 16 = .ok (.getfield 196, 3) := by decide +kernel
theorem dX6_hold_19 : decode cX6_hold 19 = .ok (.ifCond .ne 7, 3) := by decide +kernel
theorem dX6_hold_22 : decode cX6_hold 22 = .ok (.aload_n 0, 1) := by decide +kernel
theorem dX6_hold_23 : decode cX6_hold 23 = .ok (.invokevirtual 214, 3) := by decide +kernel
theorem dX6_hold_26 : decode cX6_hold 26 = .ok (.iload_n 1, 1) := by decide +kernel
theorem dX6_hold_27 : decode cX6_hold 27 = .ok (.ifCond .ne 13, 3) := by decide +kernel
theorem dX6_hold_30 : decode cX6_hold 30 = .ok (.aload_n 0, 1) := by decide +kernel
theorem dX6_hold_31 : decode cX6_hold 31 = .ok (.getfield 58, 3) := by decide +kernel
theorem dX6_hold_34 : decode cX6_hold 34 = .ok (.getfield 202, 3) := by decide +kernel
theorem dX6_hold_37 : decode cX6_hold 37 = .ok (.goto 10, 3) := by decide +kernel
theorem dX6_hold_40 : decode cX6_hold 40 = .ok (.aload_n 0, 1) := by decide +kernel
theorem dX6_hold_41 : decode cX6_hold 41 = .ok (.getfield 58, 3) := by decide +kernel
theorem dX6_hold_44 : decode cX6_hold 44 = .ok (.getfield 205, 3) := by decide +kernel
theorem dX6_hold_47 : decode cX6_hold 47 = .ok (.ireturn, 1) := by decide +kernel
theorem dX6_spare_0 : decode cX6_spare 0 = .ok (.iload_n 1, 1) := by decide +kernel
theorem dX6_spare_1 : decode cX6_spare 1 = .ok (.iconst (-1), 1) := by decide +kernel
theorem dX6_spare_2 : decode cX6_spare 2 = .ok (.iconst 1, 1) := by decide +kernel
theorem dX6_spare_3 : decode cX6_spare 3 = .ok (.invokestatic 89, 3) := by decide +kernel
theorem dX6_spare_6 : decode cX6_spare 6 = .ok (.ifCond .ne 6, 3) := by decide +kernel
theorem dX6_spare_9 : decode cX6_spare 9 = .ok (.bipush (-2), 2) := by decide +kernel
theorem dX6_spare_11 : decode cX6_spare 11 = .ok (.ireturn, 1) := by decide +kernel
theorem dX6_spare_12 : decode cX6_spare 12 = .ok (.aload_n 0, 1) := by decide +kernel
theorem dX6_spare_13 : decode cX6_spare 13 = .ok (.getfield 61, 3) := by decide +kernel
theorem dX6_spare_16 : decode cX6_spare 16 = .ok (.getfield 196, 3) := by decide +kernel
theorem dX6_spare_19 : decode cX6_spare 19 = .ok (.ifCond .ne 7, 3) := by decide +kernel
theorem dX6_spare_22 : decode cX6_spare 22 = .ok (.aload_n 0, 1) := by decide +kernel
theorem dX6_spare_23 : decode cX6_spare 23 = .ok (.invokevirtual 217, 3) := by decide +kernel
theorem dX6_spare_26 : decode cX6_spare 26 = .ok (.iload_n 1, 1) := by decide +kernel
theorem dX6_spare_27 : decode cX6_spare 27 = .ok (.iconst (-1), 1) := by decide +kernel
theorem dX6_spare_28 : decode cX6_spare 28 = .ok (.if_icmp .ne 11, 3) := by decide +kernel
theorem dX6_spare_31 : decode cX6_spare 31 = .ok (.aload_n 0, 1) := by decide +kernel
theorem dX6_spare_32 : decode cX6_spare 32 = .ok (.getfield 61, 3) := by decide +kernel
theorem dX6_spare_35 : decode cX6_spare 35 = .ok (.getfield 205, 3) := by decide +kernel
theorem dX6_spare_38 : decode cX6_spare 38 = .ok (.ireturn, 1) := by decide +kernel
theorem dX6_spare_39 : decode cX6_spare 39 = .ok (.iload_n 1, 1) := by decide +kernel
theorem dX6_spare_40 : decode cX6_spare 40 = .ok (.ifCond .ne 13, 3) := by decide +kernel
theorem dX6_spare_43 : decode cX6_spare 43 = .ok (.aload_n 0, 1) := by decide +kernel
theorem dX6_spare_44 : decode cX6_spare 44 = .ok (.getfield 61, 3) := by decide +kernel
theorem dX6_spare_47 : decode cX6_spare 47 = .ok (.getfield 202, 3) := by decide +kernel
theorem dX6_spare_50 : decode cX6_spare 50 = .ok (.goto 10, 3) := by decide +kernel
theorem dX6_spare_53 : decode cX6_spare 53 = .ok (.aload_n 0, 1) := by decide +kernel
theorem dX6_spare_54 : decode cX6_spare 54 = .ok (.getfield 61, 3) := by decide +kernel
theorem dX6_spare_57 : decode cX6_spare 57 = .ok (.getfield 211, 3) := by decide +kernel
theorem dX6_spare_60 : decode cX6_spare 60 = .ok (.ireturn, 1) := by decide +kernel
theorem dX6_hear_0 : decode cX6_hear 0 = .ok (.iload_n 1, 1) := by decide +kernel
theorem dX6_hear_1 : decode cX6_hear 1 = .ok (.iconst 0, 1) := by decide +kernel
theorem dX6_hear_2 : decode cX6_hear 2 = .ok (.bipush 15, 2) := by decide +kernel
theorem dX6_hear_4 : decode cX6_hear 4 = .ok (.invokestatic 89, 3) := by decide +kernel
theorem dX6_hear_7 : decode cX6_hear 7 = .ok (.ifCond .eq 12, 3) := by decide +kernel
theorem dX6_hear_10 : decode cX6_hear 10 = .ok (.iload_n 2, 1) := by decide +kernel
theorem dX6_hear_11 : decode cX6_hear 11 = .ok (.iconst 0, 1) := by decide +kernel
theorem dX6_hear_12 : decode cX6_hear 12 = .ok (.iconst 2, 1) := by decide +kernel
theorem dX6_hear_13 : decode cX6_hear 13 = .ok (.invokestatic 89, 3) := by decide +kernel
theorem dX6_hear_16 : decode cX6_hear 16 = .ok (.ifCond .ne 6, 3) := by decide +kernel
theorem dX6_hear_19 : decode cX6_hear 19 = .ok (.bipush (-2), 2) := by decide +kernel
theorem dX6_hear_21 : decode cX6_hear 21 = .ok (.ireturn, 1) := by decide +kernel
theorem dX6_hear_22 : decode cX6_hear 22 = .ok (.aload_n 0, 1) := by decide +kernel
theorem dX6_hear_23 : decode cX6_hear 23 = .ok (.getfield 44, 3) := by decide +kernel
theorem dX6_hear_26 : decode cX6_hear 26 = .ok (.iload_n 1, 1) := by decide +kernel
theorem dX6_hear_27 : decode cX6_hear 27 = .ok (.iload_n 2, 1) := by decide +kernel
theorem dX6_hear_28 : decode cX6_hear 28 = .ok (.invokevirtual 220, 3) := by decide +kernel
theorem dX6_hear_31 : decode cX6_hear 31 = .ok (.ifCond .ne 6, 3) := by decide +kernel
theorem dX6_hear_34 : decode cX6_hear 34 = .ok (.bipush (-4), 2) := by decide +kernel
theorem dX6_hear_36 : decode cX6_hear 36 = .ok (.ireturn, 1) := by decide +kernel
theorem dX6_hear_37 : decode cX6_hear 37 = .ok (.aload_n 0, 1) := by decide +kernel
theorem dX6_hear_38 : decode cX6_hear 38 = .ok (.getfield 44, 3) := by decide +kernel
theorem dX6_hear_41 : decode cX6_hear 41 = .ok (.getfield 223, 3) := by decide +kernel
theorem dX6_hear_44 : decode cX6_hear 44 = .ok (.ireturn, 1) := by decide +kernel
theorem dX6_forget_0 : decode cX6_forget 0 = .ok (.aload_n 0, 1) := by decide +kernel
theorem dX6_forget_1 : decode cX6_forget 1 = .ok (.getfield 44, 3) := by decide +kernel
theorem dX6_forget_4 : decode cX6_forget 4 = .ok (.getfield 223, 3) := by decide +kernel
theorem dX6_forget_7 : decode cX6_forget 7 = .ok (.istore_n 1, 1) := by decide +kernel
theorem dX6_forget_8 : decode cX6_forget 8 = .ok (.aload_n 0, 1) := by decide +kernel
theorem dX6_forget_9 : decode cX6_forget 9 = .ok (.getfield 44, 3) := by decide +kernel
theorem dX6_forget_12 : decode cX6_forget 12 = .ok (.iconst 0, 1) := by decide +kernel
theorem dX6_forget_13 : decode cX6_forget 13 = .ok (.putfield 223, 3) := by decide +kernel
theorem dX6_forget_16 : decode cX6_forget 16 = .ok (.iload_n 1, 1) := by decide +kernel
theorem dX6_forget_17 : decode cX6_forget 17 = .ok (.ireturn, 1) := by decide +kernel
theorem dX6_never_0 : decode cX6_never 0 = .ok (.aload_n 0, 1) := by decide +kernel
theorem dX6_never_1 : decode cX6_never 1 = .ok (.getfield 28, 3) := by decide +kernel
theorem dX6_never_4 : decode cX6_never 4 = .ok (.aload_n 0, 1) := by decide +kernel
theorem dX6_never_5 : decode cX6_never 5 = .ok (.getfield 24, 3) := by decide +kernel
theorem dX6_never_8 : decode cX6_never 8 = .ok (.invokevirtual 224, 3) := by decide +kernel
theorem dX6_never_11 : decode cX6_never 11 = .ok (.iconst 0, 1) := by decide +kernel
theorem dX6_never_12 : decode cX6_never 12 = .ok (.istore_n 1, 1) := by decide +kernel
theorem dX6_never_13 : decode cX6_never 13 = .ok (.iconst 0, 1) := by decide +kernel
theorem dX6_never_14 : decode cX6_never 14 = .ok (.istore_n 2, 1) := by decide +kernel
theorem dX6_never_15 : decode cX6_never 15 = .ok (.iload_n 2, 1) := by decide +kernel
theorem dX6_never_16 : decode cX6_never 16 = .ok (.aload_n 0, 1) := by decide +kernel
theorem dX6_never_17 : decode cX6_never 17 = .ok (.getfield 24, 3) := by decide +kernel
theorem dX6_never_20 : decode cX6_never 20 = .ok (.getfield 142, 3) := by decide +kernel
theorem dX6_never_23 : decode cX6_never 23 = .ok (.if_icmp .ge 32, 3) := by decide +kernel
theorem dX6_never_26 : decode cX6_never 26 = .ok (.aload_n 0, 1) := by decide +kernel
theorem dX6_never_27 : decode cX6_never 27 = .ok (.getfield 28, 3) := by decide +kernel
theorem dX6_never_30 : decode cX6_never 30 = .ok (.iconst 1, 1) := by decide +kernel
theorem dX6_never_31 : decode cX6_never 31 = .ok (.iload_n 2, 1) := by decide +kernel
theorem dX6_never_32 : decode cX6_never 32 = .ok (.ishl, 1) := by decide +kernel
theorem dX6_never_33 : decode cX6_never 33 = .ok (.putfield 228, 3) := by decide +kernel
theorem dX6_never_36 : decode cX6_never 36 = .ok (.aload_n 0, 1) := by decide +kernel
theorem dX6_never_37 : decode cX6_never 37 = .ok (.invokevirtual 231, 3) := by decide +kernel
theorem dX6_never_40 : decode cX6_never 40 = .ok (.ifCond .eq 9, 3) := by decide +kernel
theorem dX6_never_43 : decode cX6_never 43 = .ok (.iload_n 1, 1) := by decide +kernel
theorem dX6_never_44 : decode cX6_never 44 = .ok (.iconst 1, 1) := by decide +kernel
theorem dX6_never_45 : decode cX6_never 45 = .ok (.iload_n 2, 1) := by decide +kernel
theorem dX6_never_46 : decode cX6_never 46 = .ok (.ishl, 1) := by decide +kernel
theorem dX6_never_47 : decode cX6_never 47 = .ok (.ior, 1) := by decide +kernel
theorem dX6_never_48 : decode cX6_never 48 = .ok (.istore_n 1, 1) := by decide +kernel
theorem dX6_never_49 : decode cX6_never 49 = .ok (.iinc 2 1, 3) := by decide +kernel
theorem dX6_never_52 : decode cX6_never 52 = .ok (.goto (-37), 3) := by decide +kernel
theorem dX6_never_55 : decode cX6_never 55 = .ok (.iload_n 1, 1) := by decide +kernel
theorem dX6_never_56 : decode cX6_never 56 = .ok (.ireturn, 1) := by decide +kernel
theorem dX6_was_0 : decode cX6_was 0 = .ok (.aload_n 0, 1) := by decide +kernel
theorem dX6_was_1 : decode cX6_was 1 = .ok (.iload_n 1, 1) := by decide +kernel
theorem dX6_was_2 : decode cX6_was 2 = .ok (.invokevirtual 111, 3) := by decide +kernel
theorem dX6_was_5 : decode cX6_was 5 = .ok (.ifCond .eq 12, 3) := by decide +kernel
theorem dX6_was_8 : decode cX6_was 8 = .ok (.iload_n 2, 1) := by decide +kernel
theorem dX6_was_9 : decode cX6_was 9 = .ok (.iconst 0, 1) := by decide +kernel
theorem dX6_was_10 : decode cX6_was 10 = .ok (.iconst 1, 1) := by decide +kernel
theorem dX6_was_11 : decode cX6_was 11 = .ok (.invokestatic 89, 3) := by decide +kernel
theorem dX6_was_14 : decode cX6_was 14 = .ok (.ifCond .ne 6, 3) := by decide +kernel
theorem dX6_was_17 : decode cX6_was 17 = .ok (.bipush (-2), 2) := by decide +kernel
theorem dX6_was_19 : decode cX6_was 19 = .ok (.ireturn, 1) := by decide +kernel
theorem dX6_was_20 : decode cX6_was 20 = .ok (.aload_n 0, 1) := by decide +kernel
theorem dX6_was_21 : decode cX6_was 21 = .ok (.getfield 28, 3) := by decide +kernel
theorem dX6_was_24 : decode cX6_was 24 = .ok (.aload_n 0, 1) := by decide +kernel
theorem dX6_was_25 : decode cX6_was 25 = .ok (.getfield 24, 3) := by decide +kernel
theorem dX6_was_28 : decode cX6_was 28 = .ok (.invokevirtual 224, 3) := by decide +kernel
theorem dX6_was_31 : decode cX6_was 31 = .ok (.iload_n 2, 1) := by decide +kernel
theorem dX6_was_32 : decode cX6_was 32 = .ok (.ifCond .ne 13, 3) := by decide +kernel
theorem dX6_was_35 : decode cX6_was 35 = .ok (.aload_n 0, 1) := by decide +kernel
theorem dX6_was_36 : decode cX6_was 36 = .ok (.getfield 28, 3) := by decide +kernel
theorem dX6_was_39 : decode cX6_was 39 = .ok (.getfield 117, 3) := by decide +kernel
theorem dX6_was_42 : decode cX6_was 42 = .ok (.goto 10, 3) := by decide +kernel
theorem dX6_was_45 : decode cX6_was 45 = .ok (.aload_n 0, 1) := by decide +kernel
theorem dX6_was_46 : decode cX6_was 46 = .ok (.getfield 28, 3) := by decide +kernel
theorem dX6_was_49 : decode cX6_was 49 = .ok (.getfield 114, 3) := by decide +kernel
theorem dX6_was_52 : decode cX6_was 52 = .ok (.astore_n 3, 1) := by decide +kernel
theorem dX6_was_53 : decode cX6_was 53 = .ok (.iload_n 2, 1) := by decide +kernel
theorem dX6_was_54 : decode cX6_was 54 = .ok (.ifCond .ne 7, 3) := by decide +kernel
theorem dX6_was_57 : decode cX6_was 57 = .ok (.iconst 4, 1) := by decide +kernel
theorem dX6_was_58 : decode cX6_was 58 = .ok (.goto 4, 3) := by decide +kernel
theorem dX6_was_61 : decode cX6_was 61 = .ok (.iconst 3, 1) := by decide +kernel
theorem dX6_was_62 : decode cX6_was 62 = .ok (.istore 4, 2) := by decide +kernel
theorem dX6_was_64 : decode cX6_was 64 = .ok (.iconst 0, 1) := by decide +kernel
theorem dX6_was_65 : decode cX6_was 65 = .ok (.istore 5, 2) := by decide +kernel
theorem dX6_was_67 : decode cX6_was 67 = .ok (.iconst 0, 1) := by decide +kernel
theorem dX6_was_68 : decode cX6_was 68 = .ok (.istore 6, 2) := by decide +kernel
theorem dX6_was_70 : decode cX6_was 70 = .ok (.iload 6, 2) := by decide +kernel
theorem dX6_was_72 : decode cX6_was 72 = .ok (.iload 4, 2) := by decide +kernel
theorem dX6_was_74 : decode cX6_was 74 = .ok (.if_icmp .ge 30, 3) := by decide +kernel
theorem dX6_was_77 : decode cX6_was 77 = .ok (.aload_n 3, 1) := by decide +kernel
theorem dX6_was_78 : decode cX6_was 78 = .ok (.iload_n 1, 1) := by decide +kernel
theorem dX6_was_79 : decode cX6_was 79 = .ok (.iload 6, 2) := by decide +kernel
theorem dX6_was_81 : decode cX6_was 81 = .ok (.iastore, 1) := by decide +kernel
theorem dX6_was_82 : decode cX6_was 82 = .ok (.aload_n 0, 1) := by decide +kernel
theorem dX6_was_83 : decode cX6_was 83 = .ok (.invokevirtual 231, 3) := by decide +kernel
theorem dX6_was_86 : decode cX6_was 86 = .ok (.ifCond .eq 12, 3) := by decide +kernel
theorem dX6_was_89 : decode cX6_was 89 = .ok (.iload 5, 2) := by decide +kernel
theorem dX6_was_91 : decode cX6_was 91 = .ok (.iconst 1, 1) := by decide +kernel
theorem dX6_was_92 : decode cX6_was 92 = .ok (.iload 6, 2) := by decide +kernel
theorem dX6_was_94 : decode cX6_was 94 = .ok (.ishl, 1) := by decide +kernel
theorem dX6_was_95 : decode cX6_was 95 = .ok (.ior, 1) := by decide +kernel
theorem dX6_was_96 : decode cX6_was 96 = .ok (.istore 5, 2) := by decide +kernel
theorem dX6_was_98 : decode cX6_was 98 = .ok (.iinc 6 1, 3) := by decide +kernel
theorem dX6_was_101 : decode cX6_was 101 = .ok (.goto (-31), 3) := by decide +kernel
theorem dX6_was_104 : decode cX6_was 104 = .ok (.iload 5, 2) := by decide +kernel
theorem dX6_was_106 : decode cX6_was 106 = .ok (.ireturn, 1) := by decide +kernel
theorem dX6_ask_0 : decode cX6_ask 0 = .ok (.aload_n 0, 1) := by decide +kernel
theorem dX6_ask_1 : decode cX6_ask 1 = .ok (.iload_n 1, 1) := by decide +kernel
theorem dX6_ask_2 : decode cX6_ask 2 = .ok (.invokevirtual 111, 3) := by decide +kernel
theorem dX6_ask_5 : decode cX6_ask 5 = .ok (.ifCond .ne 6, 3) := by decide +kernel
theorem dX6_ask_8 : decode cX6_ask 8 = .ok (.bipush (-2), 2) := by decide +kernel
theorem dX6_ask_10 : decode cX6_ask 10 = .ok (.ireturn, 1) := by decide +kernel
theorem dX6_ask_11 : decode cX6_ask 11 = .ok (.aload_n 0, 1) := by decide +kernel
theorem dX6_ask_12 : decode cX6_ask 12 = .ok (.iload_n 1, 1) := by decide +kernel
theorem dX6_ask_13 : decode cX6_ask 13 = .ok (.invokevirtual 235, 3) := by decide +kernel
theorem dX6_ask_16 : decode cX6_ask 16 = .ok (.iconst (-1), 1) := by decide +kernel
theorem dX6_ask_17 : decode cX6_ask 17 = .ok (.istore_n 2, 1) := by decide +kernel
theorem dX6_ask_18 : decode cX6_ask 18 = .ok (.iconst 5, 1) := by decide +kernel
theorem dX6_ask_19 : decode cX6_ask 19 = .ok (.istore_n 3, 1) := by decide +kernel
theorem dX6_ask_20 : decode cX6_ask 20 = .ok (.iconst 0, 1) := by decide +kernel
theorem dX6_ask_21 : decode cX6_ask 21 = .ok (.istore 4, 2) := by decide +kernel
theorem dX6_ask_23 : decode cX6_ask 23 = .ok (.iload 4, 2) := by decide +kernel
theorem dX6_ask_25 : decode cX6_ask 25 = .ok (.aload_n 0, 1) := by decide +kernel
theorem dX6_ask_26 : decode cX6_ask 26 = .ok (.getfield 24, 3) := by decide +kernel
theorem dX6_ask_29 : decode cX6_ask 29 = .ok (.getfield 120, 3) := by decide +kernel
theorem dX6_ask_32 : decode cX6_ask 32 = .ok (.if_icmp .ge 29, 3) := by decide +kernel
theorem dX6_ask_35 : decode cX6_ask 35 = .ok (.aload_n 0, 1) := by decide +kernel
theorem dX6_ask_36 : decode cX6_ask 36 = .ok (.iload 4, 2) := by decide +kernel
theorem dX6_ask_38 : decode cX6_ask 38 = .ok (.invokevirtual 239, 3) := by decide +kernel
theorem dX6_ask_41 : decode cX6_ask 41 = .ok (.istore 5, 2) := by decide +kernel
theorem dX6_ask_43 : decode cX6_ask 43 = .ok (.iload 5, 2) := by decide +kernel
theorem dX6_ask_45 : decode cX6_ask 45 = .ok (.iload_n 3, 1) := by decide +kernel
theorem dX6_ask_46 : decode cX6_ask 46 = .ok (.if_icmp .ge 9, 3) := by decide +kernel
theorem dX6_ask_49 : decode cX6_ask 49 = .ok (.iload 5, 2) := by decide +kernel
theorem dX6_ask_51 : decode cX6_ask 51 = .ok (.istore_n 3, 1) := by decide +kernel
theorem dX6_ask_52 : decode cX6_ask 52 = .ok (.iload 4, 2) := by decide +kernel
theorem dX6_ask_54 : decode cX6_ask 54 = .ok (.istore_n 2, 1) := by decide +kernel
theorem dX6_ask_55 : decode cX6_ask 55 = .ok (.iinc 4 1, 3) := by decide +kernel
theorem dX6_ask_58 : decode cX6_ask 58 = .ok (.goto (-35), 3) := by decide +kernel
theorem dX6_ask_61 : decode cX6_ask 61 = .ok (.iload_n 2, 1) := by decide +kernel
theorem dX6_ask_62 : decode cX6_ask 62 = .ok (.ireturn, 1) := by decide +kernel
theorem dX6_chance_0 : decode cX6_chance 0 = .ok (.iload_n 1, 1) := by decide +kernel
theorem dX6_chance_1 : decode cX6_chance 1 = .ok (.iconst 0, 1) := by decide +kernel
theorem dX6_chance_2 : decode cX6_chance 2 = .ok (.bipush 16, 2) := by decide +kernel
theorem dX6_chance_4 : decode cX6_chance 4 = .ok (.invokestatic 89, 3) := by decide +kernel
theorem dX6_chance_7 : decode cX6_chance 7 = .ok (.ifCond .eq 20, 3) := by decide +kernel
theorem dX6_chance_10 : decode cX6_chance 10 = .ok (.aload_n 0, 1) := by decide +kernel
theorem dX6_chance_11 : decode cX6_chance 11 = .ok (.iload_n 2, 1) := by decide +kernel
theorem dX6_chance_12 : decode cX6_chance 12 = .ok (.invokevirtual 169, 3) := by decide +kernel
theorem dX6_chance_15 : decode cX6_chance 15 = .ok (.ifCond .eq 12, 3) := by decide +kernel
theorem dX6_chance_18 : decode cX6_chance 18 = .ok (.iload_n 3, 1) := by decide +kernel
theorem dX6_chance_19 : decode cX6_chance 19 = .ok (.iconst 0, 1) := by decide +kernel
theorem dX6_chance_20 : decode cX6_chance 20 = .ok (.iconst 1, 1) := by decide +kernel
theorem dX6_chance_21 : decode cX6_chance 21 = .ok (.invokestatic 89, 3) := by decide +kernel
theorem dX6_chance_24 : decode cX6_chance 24 = .ok (.ifCond .ne 7, 3) := by decide +kernel
theorem dX6_chance_27 : decode cX6_chance 27 = .ok (.ldc2_w 242, 3) := by decide +kernel
theorem dX6_chance_30 : decode cX6_chance 30 = .ok (.lreturn, 1) := by decide +kernel
theorem dX6_chance_31 : decode cX6_chance 31 = .ok (.aload_n 0, 1) := by decide +kernel
theorem dX6_chance_32 : decode cX6_chance 32 = .ok (.getfield 81, 3) := by decide +kernel
theorem dX6_chance_35 : decode cX6_chance 35 = .ok (.ifCond .ne 7, 3) := by decide +kernel
theorem dX6_chance_38 : decode cX6_chance 38 = .ok (.aload_n 0, 1) := by decide +kernel
theorem dX6_chance_39 : decode cX6_chance 39 = .ok (.invokevirtual 244, 3) := by decide +kernel
theorem dX6_chance_42 : decode cX6_chance 42 = .ok (.lconst 0, 1) := by decide +kernel
theorem dX6_chance_43 : decode cX6_chance 43 = .ok (.lstore 4, 2) := by decide +kernel
theorem dX6_chance_45 : decode cX6_chance 45 = .ok (.iconst 1, 1) := by decide +kernel
theorem dX6_chance_46 : decode cX6_chance 46 = .ok (.aload_n 0, 1) := by decide +kernel
theorem dX6_chance_47 : decode cX6_chance 47 = .ok (.getfield 24, 3) := by decide +kernel
theorem dX6_chance_50 : decode cX6_chance 50 = .ok (.getfield 142, 3) := by decide +kernel
theorem dX6_chance_53 : decode cX6_chance 53 = .ok (.ishl, 1) := by decide +kernel
theorem dX6_chance_54 : decode cX6_chance 54 = .ok (.istore 6, 2) := by decide +kernel
theorem dX6_chance_56 : decode cX6_chance 56 = .ok (.iconst 0, 1) := by decide +kernel
theorem dX6_chance_57 : decode cX6_chance 57 = .ok (.istore 7, 2) := by decide +kernel
theorem dX6_chance_59 : decode cX6_chance 59 = .ok (.iload 7, 2) := by decide +kernel
theorem dX6_chance_61 : decode cX6_chance 61 = .ok (.iload 6, 2) := by decide +kernel
theorem dX6_chance_63 : decode cX6_chance 63 = .ok (.if_icmp .ge 38, 3) := by decide +kernel
theorem dX6_chance_66 : decode cX6_chance 66 = .ok (.aload_n 0, 1) := by decide +kernel
theorem dX6_chance_67 : decode cX6_chance 67 = .ok (.getfield 64, 3) := by decide +kernel
theorem dX6_chance_70 : decode cX6_chance 70 = .ok (.iload 7, 2) := by decide +kernel
theorem dX6_chance_72 : decode cX6_chance 72 = .ok (.iaload, 1) := by decide +kernel
theorem dX6_chance_73 : decode cX6_chance 73 = .ok (.iload_n 2, 1) := by decide +kernel
theorem dX6_chance_74 : decode cX6_chance 74 = .ok (.ishr, 1) := by decide +kernel
theorem dX6_chance_75 : decode cX6_chance 75 = .ok (.iconst 1, 1) := by decide +kernel
theorem dX6_chance_76 : decode cX6_chance 76 = .ok (.iand, 1) := by decide +kernel
theorem dX6_chance_77 : decode cX6_chance 77 = .ok (.ifCond .eq 18, 3) := by decide +kernel
theorem dX6_chance_80 : decode cX6_chance 80 = .ok (.lload 4, 2) := by decide +kernel
theorem dX6_chance_82 : decode cX6_chance 82 = .ok (.aload_n 0, 1) := by decide +kernel
theorem dX6_chance_83 : decode cX6_chance 83 = .ok (.iload_n 1, 1) := by decide +kernel
theorem dX6_chance_84 : decode cX6_chance 84 = .ok (.iload 7, 2) := by decide +kernel
theorem dX6_chance_86 : decode cX6_chance 86 = .ok (.invokestatic 247, 3) := by decide +kernel
theorem dX6_chance_89 : decode cX6_chance 89 = .ok (.invokevirtual 252, 3) := by decide +kernel
theorem dX6_chance_92 : decode cX6_chance 92 = .ok (.ladd, 1) := by decide +kernel
theorem dX6_chance_93 : decode cX6_chance 93 = .ok (.lstore 4, 2) := by decide +kernel
theorem dX6_chance_95 : decode cX6_chance 95 = .ok (.iinc 7 1, 3) := by decide +kernel
theorem dX6_chance_98 : decode cX6_chance 98 = .ok (.goto (-39), 3) := by decide +kernel
theorem dX6_chance_101 : decode cX6_chance 101 = .ok (.iconst 4, 1) := by decide +kernel
theorem dX6_chance_102 : decode cX6_chance 102 = .ok (.aload_n 0, 1) := by decide +kernel
theorem dX6_chance_103 : decode cX6_chance 103 = .ok (.getfield 24, 3) := by decide +kernel
theorem dX6_chance_106 : decode cX6_chance 106 = .ok (.getfield 142, 3) := by decide +kernel
theorem dX6_chance_109 : decode cX6_chance 109 = .ok (.imul, 1) := by decide +kernel
theorem dX6_chance_110 : decode cX6_chance 110 = .ok (.istore 7, 2) := by decide +kernel
theorem dX6_chance_112 : decode cX6_chance 112 = .ok (.lconst 1, 1) := by decide +kernel
theorem dX6_chance_113 : decode cX6_chance 113 = .ok (.iload 7, 2) := by decide +kernel
theorem dX6_chance_115 : decode cX6_chance 115 = .ok (.lshl, 1) := by decide +kernel
theorem dX6_chance_116 : decode cX6_chance 116 = .ok (.lstore 8, 2) := by decide +kernel
theorem dX6_chance_118 : decode cX6_chance 118 = .ok (.iconst 0, 1) := by decide +kernel
theorem dX6_chance_119 : decode cX6_chance 119 = .ok (.istore 10, 2) := by decide +kernel
theorem dX6_chance_121 : decode cX6_chance 121 = .ok (.iload 10, 2) := by decide +kernel
theorem dX6_chance_123 : decode cX6_chance 123 = .ok (.iload 7, 2) := by decide +kernel
theorem dX6_chance_125 : decode cX6_chance 125 = .ok (.if_icmp .ge 36, 3) := by decide +kernel
theorem dX6_chance_128 : decode cX6_chance 128 = .ok (.lload 4, 2) := by decide +kernel
theorem dX6_chance_130 : decode cX6_chance 130 = .ok (.ldc2_w 256, 3) := by decide +kernel
theorem dX6_chance_133 : decode cX6_chance 133 = .ok (.lrem, 1) := by decide +kernel
theorem dX6_chance_134 : decode cX6_chance 134 = .ok (.lconst 0, 1) := by decide +kernel
theorem dX6_chance_135 : decode cX6_chance 135 = .ok (.lcmp, 1) := by decide +kernel
theorem dX6_chance_136 : decode cX6_chance 136 = .ok (.ifCond .ne 25, 3) := by decide +kernel
theorem dX6_chance_139 : decode cX6_chance 139 = .ok (.lload 4, 2) := by decide +kernel
theorem dX6_chance_141 : decode cX6_chance 141 = .ok (.ldc2_w 256, 3) := by decide +kernel
theorem dX6_chance_144 : decode cX6_chance 144 = .ok (.ldiv, 1) := by decide +kernel
theorem dX6_chance_145 : decode cX6_chance 145 = .ok (.lstore 4, 2) := by decide +kernel
theorem dX6_chance_147 : decode cX6_chance 147 = .ok (.lload 8, 2) := by decide +kernel
theorem dX6_chance_149 : decode cX6_chance 149 = .ok (.ldc2_w 256, 3) := by decide +kernel
theorem dX6_chance_152 : decode cX6_chance 152 = .ok (.ldiv, 1) := by decide +kernel
theorem dX6_chance_153 : decode cX6_chance 153 = .ok (.lstore 8, 2) := by decide +kernel
theorem dX6_chance_155 : decode cX6_chance 155 = .ok (.iinc 10 1, 3) := by decide +kernel
theorem dX6_chance_158 : decode cX6_chance 158 = .ok (.goto (-37), 3) := by decide +kernel
theorem dX6_chance_161 : decode cX6_chance 161 = .ok (.iload_n 3, 1) := by decide +kernel
theorem dX6_chance_162 : decode cX6_chance 162 = .ok (.ifCond .ne 8, 3) := by decide +kernel
theorem dX6_chance_165 : decode cX6_chance 165 = .ok (.lload 4, 2) := by decide +kernel
theorem dX6_chance_167 : decode cX6_chance 167 = .ok (.goto 5, 3) := by decide +kernel
theorem dX6_chance_170 : decode cX6_chance 170 = .ok (.lload 8, 2) := by decide +kernel
theorem dX6_chance_172 : decode cX6_chance 172 = .ok (.lreturn, 1) := by decide +kernel
theorem dX6_years_0 : decode cX6_years 0 = .ok (.iload_n 2, 1) := by decide +kernel
theorem dX6_years_1 : decode cX6_years 1 = .ok (.iconst 0, 1) := by decide +kernel
theorem dX6_years_2 : decode cX6_years 2 = .ok (.bipush 16, 2) := by decide +kernel
theorem dX6_years_4 : decode cX6_years 4 = .ok (.invokestatic 89, 3) := by decide +kernel
theorem dX6_years_7 : decode cX6_years 7 = .ok (.ifCond .eq 12, 3) := by decide +kernel
theorem dX6_years_10 : decode cX6_years 10 = .ok (.iload_n 3, 1) := by decide +kernel
theorem dX6_years_11 : decode cX6_years 11 = .ok (.iconst 0, 1) := by decide +kernel
theorem dX6_years_12 : decode cX6_years 12 = .ok (.iconst 1, 1) := by decide +kernel
theorem dX6_years_13 : decode cX6_years 13 = .ok (.invokestatic 89, 3) := by decide +kernel
theorem dX6_years_16 : decode cX6_years 16 = .ok (.ifCond .ne 6, 3) := by decide +kernel
theorem dX6_years_19 : decode cX6_years 19 = .ok (.bipush (-2), 2) := by decide +kernel
theorem dX6_years_21 : decode cX6_years 21 = .ok (.ireturn, 1) := by decide +kernel
theorem dX6_years_22 : decode cX6_years 22 = .ok (.aload_n 0, 1) := by decide +kernel
theorem dX6_years_23 : decode cX6_years 23 = .ok (.getfield 28, 3) := by decide +kernel
theorem dX6_years_26 : decode cX6_years 26 = .ok (.aload_n 0, 1) := by decide +kernel
theorem dX6_years_27 : decode cX6_years 27 = .ok (.getfield 24, 3) := by decide +kernel
theorem dX6_years_30 : decode cX6_years 30 = .ok (.invokevirtual 224, 3) := by decide +kernel
theorem dX6_years_33 : decode cX6_years 33 = .ok (.aload_n 0, 1) := by decide +kernel
theorem dX6_years_34 : decode cX6_years 34 = .ok (.getfield 28, 3) := by decide +kernel
theorem dX6_years_37 : decode cX6_years 37 = .ok (.invokevirtual 258, 3) := by decide +kernel
theorem dX6_years_40 : decode cX6_years 40 = .ok (.aload_n 0, 1) := by decide +kernel
theorem dX6_years_41 : decode cX6_years 41 = .ok (.iload_n 1, 1) := by decide +kernel
theorem dX6_years_42 : decode cX6_years 42 = .ok (.iload_n 2, 1) := by decide +kernel
theorem dX6_years_43 : decode cX6_years 43 = .ok (.invokevirtual 261, 3) := by decide +kernel
theorem dX6_years_46 : decode cX6_years 46 = .ok (.aload_n 0, 1) := by decide +kernel
theorem dX6_years_47 : decode cX6_years 47 = .ok (.getfield 38, 3) := by decide +kernel
theorem dX6_years_50 : decode cX6_years 50 = .ok (.aload_n 0, 1) := by decide +kernel
theorem dX6_years_51 : decode cX6_years 51 = .ok (.getfield 28, 3) := by decide +kernel
theorem dX6_years_54 : decode cX6_years 54 = .ok (.invokevirtual 265, 3) := by decide +kernel
theorem dX6_years_57 : decode cX6_years 57 = .ok (.iload_n 3, 1) := by decide +kernel
theorem dX6_years_58 : decode cX6_years 58 = .ok (.ifCond .ne 13, 3) := by decide +kernel
theorem dX6_years_61 : decode cX6_years 61 = .ok (.aload_n 0, 1) := by decide +kernel
theorem dX6_years_62 : decode cX6_years 62 = .ok (.getfield 38, 3) := by decide +kernel
theorem dX6_years_65 : decode cX6_years 65 = .ok (.getfield 184, 3) := by decide +kernel
theorem dX6_years_68 : decode cX6_years 68 = .ok (.goto 13, 3) := by decide +kernel
theorem dX6_years_71 : decode cX6_years 71 = .ok (.aload_n 0, 1) := by decide +kernel
theorem dX6_years_72 : decode cX6_years 72 = .ok (.getfield 38, 3) := by decide +kernel
theorem dX6_years_75 : decode cX6_years 75 = .ok (.getfield 163, 3) := by decide +kernel
theorem dX6_years_78 : decode cX6_years 78 = .ok (.bipush 23, 2) := by decide +kernel
theorem dX6_years_80 : decode cX6_years 80 = .ok (.iaload, 1) := by decide +kernel
theorem dX6_years_81 : decode cX6_years 81 = .ok (.ireturn, 1) := by decide +kernel
theorem dX6_sheet_0 : decode cX6_sheet 0 = .ok (.iload_n 1, 1) := by decide +kernel
theorem dX6_sheet_1 : decode cX6_sheet 1 = .ok (.iconst 0, 1) := by decide +kernel
theorem dX6_sheet_2 : decode cX6_sheet 2 = .ok (.iconst 3, 1) := by decide +kernel
theorem dX6_sheet_3 : decode cX6_sheet 3 = .ok (.invokestatic 89, 3) := by decide +kernel
theorem dX6_sheet_6 : decode cX6_sheet 6 = .ok (.ifCond .eq 18, 3) := by decide +kernel
theorem dX6_sheet_9 : decode cX6_sheet 9 = .ok (.iload_n 2, 1) := by decide +kernel
theorem dX6_sheet_10 : decode cX6_sheet 10 = .ok (.iconst 0, 1) := by decide +kernel
theorem dX6_sheet_11 : decode cX6_sheet 11 = .ok (.iconst 2, 1) := by decide +kernel
theorem dX6_sheet_12 : decode cX6_sheet 12 = .ok (.invokestatic 89, 3) := by decide +kernel
theorem dX6_sheet_15 : decode cX6_sheet 15 = .ok (.ifCond .eq 9, 3) := by decide +kernel
theorem dX6_sheet_18 : decode cX6_sheet 18 = .ok (.iload_n 3, 1) := by decide +kernel
theorem dX6_sheet_19 : decode cX6_sheet 19 = .ok (.bipush 60, 2) := by decide +kernel
theorem dX6_sheet_21 : decode cX6_sheet 21 = .ok (.if_icmp .le 6, 3) := by decide +kernel
theorem dX6_sheet_24 : decode cX6_sheet 24 = .ok (.bipush (-2), 2) := by decide +kernel
theorem dX6_sheet_26 : decode cX6_sheet 26 = .ok (.ireturn, 1) := by decide +kernel
theorem dX6_sheet_27 : decode cX6_sheet 27 = .ok (.iload_n 3, 1) := by decide +kernel
theorem dX6_sheet_28 : decode cX6_sheet 28 = .ok (.ifCond .ge 9, 3) := by decide +kernel
theorem dX6_sheet_31 : decode cX6_sheet 31 = .ok (.aload_n 0, 1) := by decide +kernel
theorem dX6_sheet_32 : decode cX6_sheet 32 = .ok (.iconst 5, 1) := by decide +kernel
theorem dX6_sheet_33 : decode cX6_sheet 33 = .ok (.invokevirtual 148, 3) := by decide +kernel
theorem dX6_sheet_36 : decode cX6_sheet 36 = .ok (.ireturn, 1) := by decide +kernel
theorem dX6_sheet_37 : decode cX6_sheet 37 = .ok (.aload_n 0, 1) := by decide +kernel
theorem dX6_sheet_38 : decode cX6_sheet 38 = .ok (.getfield 73, 3) := by decide +kernel
theorem dX6_sheet_41 : decode cX6_sheet 41 = .ok (.iload_n 1, 1) := by decide +kernel
theorem dX6_sheet_42 : decode cX6_sheet 42 = .ok (.aaload, 1) := by decide +kernel
theorem dX6_sheet_43 : decode cX6_sheet 43 = .ok (.iload_n 2, 1) := by decide +kernel
theorem dX6_sheet_44 : decode cX6_sheet 44 = .ok (.iload_n 3, 1) := by decide +kernel
theorem dX6_sheet_45 : decode cX6_sheet 45 = .ok (.invokevirtual 268, 3) := by decide +kernel
theorem dX6_sheet_48 : decode cX6_sheet 48 = .ok (.iload_n 3, 1) := by decide +kernel
theorem dX6_sheet_49 : decode cX6_sheet 49 = .ok (.ireturn, 1) := by decide +kernel
theorem dX6_lose_0 : decode cX6_lose 0 = .ok (.iload_n 1, 1) := by decide +kernel
theorem dX6_lose_1 : decode cX6_lose 1 = .ok (.iconst 0, 1) := by decide +kernel
theorem dX6_lose_2 : decode cX6_lose 2 = .ok (.iconst 3, 1) := by decide +kernel
theorem dX6_lose_3 : decode cX6_lose 3 = .ok (.invokestatic 89, 3) := by decide +kernel
theorem dX6_lose_6 : decode cX6_lose 6 = .ok (.ifCond .ne 6, 3) := by decide +kernel
theorem dX6_lose_9 : decode cX6_lose 9 = .ok (.bipush (-2), 2) := by decide +kernel
theorem dX6_lose_11 : decode cX6_lose 11 = .ok (.ireturn, 1) := by decide +kernel
theorem dX6_lose_12 : decode cX6_lose 12 = .ok (.aload_n 0, 1) := by decide +kernel
theorem dX6_lose_13 : decode cX6_lose 13 = .ok (.getfield 73, 3) := by decide +kernel
theorem dX6_lose_16 : decode cX6_lose 16 = .ok (.iload_n 1, 1) := by decide +kernel
theorem dX6_lose_17 : decode cX6_lose 17 = .ok (.aaload, 1) := by decide +kernel
theorem dX6_lose_18 : decode cX6_lose 18 = .ok (.astore_n 2, 1) := by decide +kernel
theorem dX6_lose_19 : decode cX6_lose 19 = .ok (.aload_n 2, 1) := by decide +kernel
theorem dX6_lose_20 : decode cX6_lose 20 = .ok (.getfield 145, 3) := by decide +kernel
theorem dX6_lose_23 : decode cX6_lose 23 = .ok (.ifCond .eq 9, 3) := by decide +kernel
theorem dX6_lose_26 : decode cX6_lose 26 = .ok (.aload_n 0, 1) := by decide +kernel
theorem dX6_lose_27 : decode cX6_lose 27 = .ok (.iconst 1, 1) := by decide +kernel
theorem dX6_lose_28 : decode cX6_lose 28 = .ok (.invokevirtual 148, 3) := by decide +kernel
theorem dX6_lose_31 : decode cX6_lose 31 = .ok (.ireturn, 1) := by decide +kernel
theorem dX6_lose_32 : decode cX6_lose 32 = .ok (.aload_n 2, 1) := by decide +kernel
theorem dX6_lose_33 : decode cX6_lose 33 = .ok (.iconst 1, 1) := by decide +kernel
theorem dX6_lose_34 : decode cX6_lose 34 = .ok (.putfield 145, 3) := by decide +kernel
theorem dX6_lose_37 : decode cX6_lose 37 = .ok (.aload_n 2, 1) := by decide +kernel
theorem dX6_lose_38 : decode cX6_lose 38 = .ok (.getfield 152, 3) := by decide +kernel
theorem dX6_lose_41 : decode cX6_lose 41 = .ok (.ireturn, 1) := by decide +kernel
theorem dX6_lay_0 : decode cX6_lay 0 = .ok (.iload_n 1, 1) := by decide +kernel
theorem dX6_lay_1 : decode cX6_lay 1 = .ok (.iconst 0, 1) := by decide +kernel
theorem dX6_lay_2 : decode cX6_lay 2 = .ok (.iconst 3, 1) := by decide +kernel
theorem dX6_lay_3 : decode cX6_lay 3 = .ok (.invokestatic 89, 3) := by decide +kernel
theorem dX6_lay_6 : decode cX6_lay 6 = .ok (.ifCond .eq 12, 3) := by decide +kernel
theorem dX6_lay_9 : decode cX6_lay 9 = .ok (.iload_n 2, 1) := by decide +kernel
theorem dX6_lay_10 : decode cX6_lay 10 = .ok (.iconst 0, 1) := by decide +kernel
theorem dX6_lay_11 : decode cX6_lay 11 = .ok (.iconst 2, 1) := by decide +kernel
theorem dX6_lay_12 : decode cX6_lay 12 = .ok (.invokestatic 89, 3) := by decide +kernel
theorem dX6_lay_15 : decode cX6_lay 15 = .ok (.ifCond .ne 6, 3) := by decide +kernel
theorem dX6_lay_18 : decode cX6_lay 18 = .ok (.bipush (-2), 2) := by decide +kernel
theorem dX6_lay_20 : decode cX6_lay 20 = .ok (.ireturn, 1) := by decide +kernel
theorem dX6_lay_21 : decode cX6_lay 21 = .ok (.aload_n 0, 1) := by decide +kernel
theorem dX6_lay_22 : decode cX6_lay 22 = .ok (.getfield 73, 3) := by decide +kernel
theorem dX6_lay_25 : decode cX6_lay 25 = .ok (.iload_n 1, 1) := by decide +kernel
theorem dX6_lay_26 : decode cX6_lay 26 = .ok (.aaload, 1) := by decide +kernel
theorem dX6_lay_27 : decode cX6_lay 27 = .ok (.iload_n 2, 1) := by decide +kernel
theorem dX6_lay_28 : decode cX6_lay 28 = .ok (.iload_n 3, 1) := by decide +kernel
theorem dX6_lay_29 : decode cX6_lay 29 = .ok (.invokevirtual 271, 3) := by decide +kernel
theorem dX6_lay_32 : decode cX6_lay 32 = .ok (.istore 5, 2) := by decide +kernel
theorem dX6_lay_34 : decode cX6_lay 34 = .ok (.iload 5, 2) := by decide +kernel
theorem dX6_lay_36 : decode cX6_lay 36 = .ok (.ifCond .eq 10, 3) := by decide +kernel
theorem dX6_lay_39 : decode cX6_lay 39 = .ok (.aload_n 0, 1) := by decide +kernel
theorem dX6_lay_40 : decode cX6_lay 40 = .ok (.iload 5, 2) := by decide +kernel
theorem dX6_lay_42 : decode cX6_lay 42 = .ok (.invokevirtual 148, 3) := by decide +kernel
theorem dX6_lay_45 : decode cX6_lay 45 = .ok (.ireturn, 1) := by decide +kernel
theorem dX6_lay_46 : decode cX6_lay 46 = .ok (.aload_n 0, 1) := by decide +kernel
theorem dX6_lay_47 : decode cX6_lay 47 = .ok (.getfield 73, 3) := by decide +kernel
theorem dX6_lay_50 : decode cX6_lay 50 = .ok (.iload_n 1, 1) := by decide +kernel
theorem dX6_lay_51 : decode cX6_lay 51 = .ok (.aaload, 1) := by decide +kernel
theorem dX6_lay_52 : decode cX6_lay 52 = .ok (.iload_n 3, 1) := by decide +kernel
theorem dX6_lay_53 : decode cX6_lay 53 = .ok (.iload 4, 2) := by decide +kernel
theorem dX6_lay_55 : decode cX6_lay 55 = .ok (.invokevirtual 275, 3) := by decide +kernel
theorem dX6_lay_58 : decode cX6_lay 58 = .ok (.iconst 1, 1) := by decide +kernel
theorem dX6_lay_59 : decode cX6_lay 59 = .ok (.ireturn, 1) := by decide +kernel
theorem dX6_get_0 : decode cX6_get 0 = .ok (.iload_n 1, 1) := by decide +kernel
theorem dX6_get_1 : decode cX6_get 1 = .ok (.iconst 0, 1) := by decide +kernel
theorem dX6_get_2 : decode cX6_get 2 = .ok (.iconst 3, 1) := by decide +kernel
theorem dX6_get_3 : decode cX6_get 3 = .ok (.invokestatic 89, 3) := by decide +kernel
theorem dX6_get_6 : decode cX6_get 6 = .ok (.ifCond .eq 12, 3) := by decide +kernel
theorem dX6_get_9 : decode cX6_get 9 = .ok (.iload_n 2, 1) := by decide +kernel
theorem dX6_get_10 : decode cX6_get 10 = .ok (.iconst 0, 1) := by decide +kernel
theorem dX6_get_11 : decode cX6_get 11 = .ok (.iconst 2, 1) := by decide +kernel
theorem dX6_get_12 : decode cX6_get 12 = .ok (.invokestatic 89, 3) := by decide +kernel
theorem dX6_get_15 : decode cX6_get 15 = .ok (.ifCond .ne 7, 3) := by decide +kernel
theorem dX6_get_18 : decode cX6_get 18 = .ok (.ldc_w 278, 3) := by decide +kernel
theorem dX6_get_21 : decode cX6_get 21 = .ok (.ireturn, 1) := by decide +kernel
theorem dX6_get_22 : decode cX6_get 22 = .ok (.aload_n 0, 1) := by decide +kernel
theorem dX6_get_23 : decode cX6_get 23 = .ok (.getfield 73, 3) := by decide +kernel
theorem dX6_get_26 : decode cX6_get 26 = .ok (.iload_n 1, 1) := by decide +kernel
theorem dX6_get_27 : decode cX6_get 27 = .ok (.aaload, 1) := by decide +kernel
theorem dX6_get_28 : decode cX6_get 28 = .ok (.iload_n 2, 1) := by decide +kernel
theorem dX6_get_29 : decode cX6_get 29 = .ok (.iload_n 3, 1) := by decide +kernel
theorem dX6_get_30 : decode cX6_get 30 = .ok (.invokevirtual 271, 3) := by decide +kernel
theorem dX6_get_33 : decode cX6_get 33 = .ok (.istore 4, 2) := by decide +kernel
theorem dX6_get_35 : decode cX6_get 35 = .ok (.iload 4, 2) := by decide +kernel
theorem dX6_get_37 : decode cX6_get 37 = .ok (.ifCond .eq 13, 3) := by decide +kernel
theorem dX6_get_40 : decode cX6_get 40 = .ok (.aload_n 0, 1) := by decide +kernel
theorem dX6_get_41 : decode cX6_get 41 = .ok (.iload 4, 2) := by decide +kernel
theorem dX6_get_43 : decode cX6_get 43 = .ok (.putfield 84, 3) := by decide +kernel
theorem dX6_get_46 : decode cX6_get 46 = .ok (.ldc_w 278, 3) := by decide +kernel
theorem dX6_get_49 : decode cX6_get 49 = .ok (.ireturn, 1) := by decide +kernel
theorem dX6_get_50 : decode cX6_get 50 = .ok (.aload_n 0, 1) := by decide +kernel
theorem dX6_get_51 : decode cX6_get 51 = .ok (.getfield 73, 3) := by decide +kernel
theorem dX6_get_54 : decode cX6_get 54 = .ok (.iload_n 1, 1) := by decide +kernel
theorem dX6_get_55 : decode cX6_get 55 = .ok (.aaload, 1) := by decide +kernel
theorem dX6_get_56 : decode cX6_get 56 = .ok (.getfield 153, 3) := by decide +kernel
theorem dX6_get_59 : decode cX6_get 59 = .ok (.iload_n 3, 1) := by decide +kernel
theorem dX6_get_60 : decode cX6_get 60 = .ok (.iaload, 1) := by decide +kernel
theorem dX6_get_61 : decode cX6_get 61 = .ok (.ireturn, 1) := by decide +kernel
theorem dX6_copy_0 : decode cX6_copy 0 = .ok (.iload_n 1, 1) := by decide +kernel
theorem dX6_copy_1 : decode cX6_copy 1 = .ok (.iconst 0, 1) := by decide +kernel
theorem dX6_copy_2 : decode cX6_copy 2 = .ok (.iconst 3, 1) := by decide +kernel
theorem dX6_copy_3 : decode cX6_copy 3 = .ok (.invokestatic 89, 3) := by decide +kernel
theorem dX6_copy_6 : decode cX6_copy 6 = .ok (.ifCond .eq 12, 3) := by decide +kernel
theorem dX6_copy_9 : decode cX6_copy 9 = .ok (.iload_n 3, 1) := by decide +kernel
theorem dX6_copy_10 : decode cX6_copy 10 = .ok (.iconst 0, 1) := by decide +kernel
theorem dX6_copy_11 : decode cX6_copy 11 = .ok (.iconst 3, 1) := by decide +kernel
theorem dX6_copy_12 : decode cX6_copy 12 = .ok (.invokestatic 89, 3) := by decide +kernel
theorem dX6_copy_15 : decode cX6_copy 15 = .ok (.ifCond .ne 6, 3) := by decide +kernel
theorem dX6_copy_18 : decode cX6_copy 18 = .ok (.bipush (-2), 2) := by decide +kernel
theorem dX6_copy_20 : decode cX6_copy 20 = .ok (.ireturn, 1) := by decide +kernel
theorem dX6_copy_21 : decode cX6_copy 21 = .ok (.aload_n 0, 1) := by decide +kernel
theorem dX6_copy_22 : decode cX6_copy 22 = .ok (.getfield 73, 3) := by decide +kernel
theorem dX6_copy_25 : decode cX6_copy 25 = .ok (.iload_n 1, 1) := by decide +kernel
theorem dX6_copy_26 : decode cX6_copy 26 = .ok (.aaload, 1) := by decide +kernel
theorem dX6_copy_27 : decode cX6_copy 27 = .ok (.astore 6, 2) := by decide +kernel
theorem dX6_copy_29 : decode cX6_copy 29 = .ok (.aload_n 0, 1) := by decide +kernel
theorem dX6_copy_30 : decode cX6_copy 30 = .ok (.getfield 73, 3) := by decide +kernel
theorem dX6_copy_33 : decode cX6_copy 33 = .ok (.iload_n 3, 1) := by decide +kernel
theorem dX6_copy_34 : decode cX6_copy 34 = .ok (.aaload, 1) := by decide +kernel
theorem dX6_copy_35 : decode cX6_copy 35 = .ok (.astore 7, 2) := by decide +kernel
theorem dX6_copy_37 : decode cX6_copy 37 = .ok (.aload 6, 2) := by decide +kernel
theorem dX6_copy_39 : decode cX6_copy 39 = .ok (.getfield 145, 3) := by decide +kernel
theorem dX6_copy_42 : decode cX6_copy 42 = .ok (.ifCond .ne 11, 3) := by decide +kernel
theorem dX6_copy_45 : decode cX6_copy 45 = .ok (.aload 7, 2) := by decide +kernel
theorem dX6_copy_47 : decode cX6_copy 47 = .ok (.getfield 145, 3) := by decide +kernel
theorem dX6_copy_50 : decode cX6_copy 50 = .ok (.ifCond .eq 9, 3) := by decide +kernel
theorem dX6_copy_53 : decode cX6_copy 53 = .ok (.aload_n 0, 1) := by decide +kernel
theorem dX6_copy_54 : decode cX6_copy 54 = .ok (.iconst 1, 1) := by decide +kernel
theorem dX6_copy_55 : decode cX6_copy 55 = .ok (.invokevirtual 148, 3) := by decide +kernel
theorem dX6_copy_58 : decode cX6_copy 58 = .ok (.ireturn, 1) := by decide +kernel
theorem dX6_copy_59 : decode cX6_copy 59 = .ok (.aload 6, 2) := by decide +kernel
theorem dX6_copy_61 : decode cX6_copy 61 = .ok (.getfield 279, 3) := by decide +kernel
theorem dX6_copy_64 : decode cX6_copy 64 = .ok (.aload 7, 2) := by decide +kernel
theorem dX6_copy_66 : decode cX6_copy 66 = .ok (.getfield 279, 3) := by decide +kernel
theorem dX6_copy_69 : decode cX6_copy 69 = .ok (.if_icmp .eq 9, 3) := by decide +kernel
theorem dX6_copy_72 : decode cX6_copy 72 = .ok (.aload_n 0, 1) := by decide +kernel
theorem dX6_copy_73 : decode cX6_copy 73 = .ok (.iconst 4, 1) := by decide +kernel
theorem dX6_copy_74 : decode cX6_copy 74 = .ok (.invokevirtual 148, 3) := by decide +kernel
theorem dX6_copy_77 : decode cX6_copy 77 = .ok (.ireturn, 1) := by decide +kernel
theorem dX6_copy_78 : decode cX6_copy 78 = .ok (.aload 6, 2) := by decide +kernel
theorem dX6_copy_80 : decode cX6_copy 80 = .ok (.iload_n 2, 1) := by decide +kernel
theorem dX6_copy_81 : decode cX6_copy 81 = .ok (.iload 5, 2) := by decide +kernel
theorem dX6_copy_83 : decode cX6_copy 83 = .ok (.invokevirtual 282, 3) := by decide +kernel
theorem dX6_copy_86 : decode cX6_copy 86 = .ok (.ifCond .eq 15, 3) := by decide +kernel
theorem dX6_copy_89 : decode cX6_copy 89 = .ok (.aload 7, 2) := by decide +kernel
theorem dX6_copy_91 : decode cX6_copy 91 = .ok (.iload 4, 2) := by decide +kernel
theorem dX6_copy_93 : decode cX6_copy 93 = .ok (.iload 5, 2) := by decide +kernel
theorem dX6_copy_95 : decode cX6_copy 95 = .ok (.invokevirtual 282, 3) := by decide +kernel
theorem dX6_copy_98 : decode cX6_copy 98 = .ok (.ifCond .ne 9, 3) := by decide +kernel
theorem dX6_copy_101 : decode cX6_copy 101 = .ok (.aload_n 0, 1) := by decide +kernel
theorem dX6_copy_102 : decode cX6_copy 102 = .ok (.iconst 2, 1) := by decide +kernel
theorem dX6_copy_103 : decode cX6_copy 103 = .ok (.invokevirtual 148, 3) := by decide +kernel
theorem dX6_copy_106 : decode cX6_copy 106 = .ok (.ireturn, 1) := by decide +kernel
theorem dX6_copy_107 : decode cX6_copy 107 = .ok (.aload 6, 2) := by decide +kernel
theorem dX6_copy_109 : decode cX6_copy 109 = .ok (.getfield 153, 3) := by decide +kernel
theorem dX6_copy_112 : decode cX6_copy 112 = .ok (.iload_n 2, 1) := by decide +kernel
theorem dX6_copy_113 : decode cX6_copy 113 = .ok (.aload 7, 2) := by decide +kernel
theorem dX6_copy_115 : decode cX6_copy 115 = .ok (.getfield 153, 3) := by decide +kernel
theorem dX6_copy_118 : decode cX6_copy 118 = .ok (.iload 4, 2) := by decide +kernel
theorem dX6_copy_120 : decode cX6_copy 120 = .ok (.iload 5, 2) := by decide +kernel
theorem dX6_copy_122 : decode cX6_copy 122 = .ok (.invokestatic 285, 3) := by decide +kernel
theorem dX6_copy_125 : decode cX6_copy 125 = .ok (.iconst 1, 1) := by decide +kernel
theorem dX6_copy_126 : decode cX6_copy 126 = .ok (.ireturn, 1) := by decide +kernel
theorem dX6_write_0 : decode cX6_write 0 = .ok (.iload_n 1, 1) := by decide +kernel
theorem dX6_write_1 : decode cX6_write 1 = .ok (.iconst 0, 1) := by decide +kernel
theorem dX6_write_2 : decode cX6_write 2 = .ok (.iconst 3, 1) := by decide +kernel
theorem dX6_write_3 : decode cX6_write 3 = .ok (.invokestatic 89, 3) := by decide +kernel
theorem dX6_write_6 : decode cX6_write 6 = .ok (.ifCond .ne 6, 3) := by decide +kernel
theorem dX6_write_9 : decode cX6_write 9 = .ok (.bipush (-2), 2) := by decide +kernel
theorem dX6_write_11 : decode cX6_write 11 = .ok (.ireturn, 1) := by decide +kernel
theorem dX6_write_12 : decode cX6_write 12 = .ok (.aload_n 0, 1) := by decide +kernel
theorem dX6_write_13 : decode cX6_write 13 = .ok (.getfield 73, 3) := by decide +kernel
theorem dX6_write_16 : decode cX6_write 16 = .ok (.iload_n 1, 1) := by decide +kernel
theorem dX6_write_17 : decode cX6_write 17 = .ok (.aaload, 1) := by decide +kernel
theorem dX6_write_18 : decode cX6_write 18 = .ok (.astore_n 2, 1) := by decide +kernel
theorem dX6_write_19 : decode cX6_write 19 = .ok (.aload_n 2, 1) := by decide +kernel
theorem dX6_write_20 : decode cX6_write 20 = .ok (.getfield 145, 3) := by decide +kernel
theorem dX6_write_23 : decode cX6_write 23 = .ok (.ifCond .eq 9, 3) := by decide +kernel
theorem dX6_write_26 : decode cX6_write 26 = .ok (.aload_n 0, 1) := by decide +kernel
theorem dX6_write_27 : decode cX6_write 27 = .ok (.iconst 1, 1) := by decide +kernel
theorem dX6_write_28 : decode cX6_write 28 = .ok (.invokevirtual 148, 3) := by decide +kernel
theorem dX6_write_31 : decode cX6_write 31 = .ok (.ireturn, 1) := by decide +kernel
theorem dX6_write_32 : decode cX6_write 32 = .ok (.aload_n 0, 1) := by decide +kernel
theorem dX6_write_33 : decode cX6_write 33 = .ok (.invokevirtual 156, 3) := by decide +kernel
theorem dX6_write_36 : decode cX6_write 36 = .ok (.astore_n 3, 1) := by decide +kernel
theorem dX6_write_37 : decode cX6_write 37 = .ok (.aload_n 2, 1) := by decide +kernel
theorem dX6_write_38 : decode cX6_write 38 = .ok (.getfield 152, 3) := by decide +kernel
theorem dX6_write_41 : decode cX6_write 41 = .ok (.bipush 24, 2) := by decide +kernel
theorem dX6_write_43 : decode cX6_write 43 = .ok (.invokestatic 291, 3) := by decide +kernel
theorem dX6_write_46 : decode cX6_write 46 = .ok (.istore 4, 2) := by decide +kernel
theorem dX6_write_48 : decode cX6_write 48 = .ok (.iconst 0, 1) := by decide +kernel
theorem dX6_write_49 : decode cX6_write 49 = .ok (.istore 5, 2) := by decide +kernel
theorem dX6_write_51 : decode cX6_write 51 = .ok (.iload 5, 2) := by decide +kernel
theorem dX6_write_53 : decode cX6_write 53 = .ok (.iload 4, 2) := by decide +kernel
theorem dX6_write_55 : decode cX6_write 55 = .ok (.if_icmp .ge 22, 3) := by decide +kernel
theorem dX6_write_58 : decode cX6_write 58 = .ok (.aload_n 2, 1) := by decide +kernel
theorem dX6_write_59 : decode cX6_write 59 = .ok (.iload 5, 2) := by decide +kernel
theorem dX6_write_61 : decode cX6_write 61 = .ok (.aload_n 3, 1) := by decide +kernel
theorem dX6_write_62 : decode cX6_write 62 = .ok (.getfield 163, 3) := by decide +kernel
theorem dX6_write_65 : decode cX6_write 65 = .ok (.iload 5, 2) := by decide +kernel
theorem dX6_write_67 : decode cX6_write 67 = .ok (.iaload, 1) := by decide +kernel
theorem dX6_write_68 : decode cX6_write 68 = .ok (.invokevirtual 275, 3) := by decide +kernel
theorem dX6_write_71 : decode cX6_write 71 = .ok (.iinc 5 1, 3) := by decide +kernel
theorem dX6_write_74 : decode cX6_write 74 = .ok (.goto (-23), 3) := by decide +kernel
theorem dX6_write_77 : decode cX6_write 77 = .ok (.iload 4, 2) := by decide +kernel
theorem dX6_write_79 : decode cX6_write 79 = .ok (.ireturn, 1) := by decide +kernel
theorem dX6_count_0 : decode cX6_count 0 = .ok (.iload_n 1, 1) := by decide +kernel
theorem dX6_count_1 : decode cX6_count 1 = .ok (.tableswitch 120 0 8 #[51, 59, 67, 75, 83, 91, 99, 107, 115], 51) := by decide +kernel
theorem dX6_count_52 : decode cX6_count 52 = .ok (.aload_n 0, 1) := by decide +kernel
theorem dX6_count_53 : decode cX6_count 53 = .ok (.getfield 24, 3) := by decide +kernel
theorem dX6_count_56 : decode cX6_count 56 = .ok (.getfield 193, 3) := by decide +kernel
theorem dX6_count_59 : decode cX6_count 59 = .ok (.ireturn, 1) := by decide +kernel
theorem dX6_count_60 : decode cX6_count 60 = .ok (.aload_n 0, 1) := by decide +kernel
theorem dX6_count_61 : decode cX6_count 61 = .ok (.getfield 24, 3) := by decide +kernel
theorem dX6_count_64 : decode cX6_count 64 = .ok (.getfield 120, 3) := by decide +kernel
theorem dX6_count_67 : decode cX6_count 67 = .ok (.ireturn, 1) := by decide +kernel
theorem dX6_count_68 : decode cX6_count 68 = .ok (.aload_n 0, 1) := by decide +kernel
theorem dX6_count_69 : decode cX6_count 69 = .ok (.getfield 14, 3) := by decide +kernel
theorem dX6_count_72 : decode cX6_count 72 = .ok (.getfield 104, 3) := by decide +kernel
theorem dX6_count_75 : decode cX6_count 75 = .ok (.ireturn, 1) := by decide +kernel
theorem dX6_count_76 : decode cX6_count 76 = .ok (.aload_n 0, 1) := by decide +kernel
theorem dX6_count_77 : decode cX6_count 77 = .ok (.getfield 18, 3) := by decide +kernel
theorem dX6_count_80 : decode cX6_count 80 = .ok (.getfield 104, 3) := by decide +kernel
theorem dX6_count_83 : decode cX6_count 83 = .ok (.ireturn, 1) := by decide +kernel
theorem dX6_count_84 : decode cX6_count 84 = .ok (.aload_n 0, 1) := by decide +kernel
theorem dX6_count_85 : decode cX6_count 85 = .ok (.getfield 24, 3) := by decide +kernel
theorem dX6_count_88 : decode cX6_count 88 = .ok (.getfield 142, 3) := by decide +kernel
theorem dX6_count_91 : decode cX6_count 91 = .ok (.ireturn, 1) := by decide +kernel
theorem dX6_count_92 : decode cX6_count 92 = .ok (.aload_n 0, 1) := by decide +kernel
theorem dX6_count_93 : decode cX6_count 93 = .ok (.getfield 24, 3) := by decide +kernel
theorem dX6_count_96 : decode cX6_count 96 = .ok (.getfield 129, 3) := by decide +kernel
theorem dX6_count_99 : decode cX6_count 99 = .ok (.ireturn, 1) := by decide +kernel
theorem dX6_count_100 : decode cX6_count 100 = .ok (.aload_n 0, 1) := by decide +kernel
theorem dX6_count_101 : decode cX6_count 101 = .ok (.invokevirtual 156, 3) := by decide +kernel
theorem dX6_count_104 : decode cX6_count 104 = .ok (.getfield 184, 3) := by decide +kernel
theorem dX6_count_107 : decode cX6_count 107 = .ok (.ireturn, 1) := by decide +kernel
theorem dX6_count_108 : decode cX6_count 108 = .ok (.aload_n 0, 1) := by decide +kernel
theorem dX6_count_109 : decode cX6_count 109 = .ok (.getfield 44, 3) := by decide +kernel
theorem dX6_count_112 : decode cX6_count 112 = .ok (.getfield 223, 3) := by decide +kernel
theorem dX6_count_115 : decode cX6_count 115 = .ok (.ireturn, 1) := by decide +kernel
theorem dX6_count_116 : decode cX6_count 116 = .ok (.aload_n 0, 1) := by decide +kernel
theorem dX6_count_117 : decode cX6_count 117 = .ok (.getfield 84, 3) := by decide +kernel
theorem dX6_count_120 : decode cX6_count 120 = .ok (.ireturn, 1) := by decide +kernel
theorem dX6_count_121 : decode cX6_count 121 = .ok (.bipush (-2), 2) := by decide +kernel
theorem dX6_count_123 : decode cX6_count 123 = .ok (.ireturn, 1) := by decide +kernel
theorem dX6_digest_0 : decode cX6_digest 0 = .ok (.ldc2_w 296, 3) := by decide +kernel
theorem dX6_digest_3 : decode cX6_digest 3 = .ok (.lstore_n 1, 1) := by decide +kernel
theorem dX6_digest_4 : decode cX6_digest 4 = .ok (.iconst 0, 1) := by decide +kernel
theorem dX6_digest_5 : decode cX6_digest 5 = .ok (.istore_n 3, 1) := by decide +kernel
theorem dX6_digest_6 : decode cX6_digest 6 = .ok (.iload_n 3, 1) := by decide +kernel
theorem dX6_digest_7 : decode cX6_digest 7 = .ok (.bipush 7, 2) := by decide +kernel
theorem dX6_digest_9 : decode cX6_digest 9 = .ok (.if_icmp .gt 20, 3) := by decide +kernel
theorem dX6_digest_12 : decode cX6_digest 12 = .ok (.lload_n 1, 1) := by decide +kernel
theorem dX6_digest_13 : decode cX6_digest 13 = .ok (.aload_n 0, 1) := by decide +kernel
theorem dX6_digest_14 : decode cX6_digest 14 = .ok (.iload_n 3, 1) := by decide +kernel
theorem dX6_digest_15 : decode cX6_digest 15 = .ok (.invokevirtual 298, 3) := by decide +kernel
theorem dX6_digest_18 : decode cX6_digest 18 = .ok (.i2l, 1) := by decide +kernel
theorem dX6_digest_19 : decode cX6_digest 19 = .ok (.invokestatic 301, 3) := by decide +kernel
theorem dX6_digest_22 : decode cX6_digest 22 = .ok (.lstore_n 1, 1) := by decide +kernel
theorem dX6_digest_23 : decode cX6_digest 23 = .ok (.iinc 3 1, 3) := by decide +kernel
theorem dX6_digest_26 : decode cX6_digest 26 = .ok (.goto (-20), 3) := by decide +kernel
theorem dX6_digest_29 : decode cX6_digest 29 = .ok (.lload_n 1, 1) := by decide +kernel
theorem dX6_digest_30 : decode cX6_digest 30 = .ok (.aload_n 0, 1) := by decide +kernel
theorem dX6_digest_31 : decode cX6_digest 31 = .ok (.iconst 0, 1) := by decide +kernel
theorem dX6_digest_32 : decode cX6_digest 32 = .ok (.invokevirtual 305, 3) := by decide +kernel
theorem dX6_digest_35 : decode cX6_digest 35 = .ok (.i2l, 1) := by decide +kernel
theorem dX6_digest_36 : decode cX6_digest 36 = .ok (.invokestatic 301, 3) := by decide +kernel
theorem dX6_digest_39 : decode cX6_digest 39 = .ok (.aload_n 0, 1) := by decide +kernel
theorem dX6_digest_40 : decode cX6_digest 40 = .ok (.iconst 1, 1) := by decide +kernel
theorem dX6_digest_41 : decode cX6_digest 41 = .ok (.invokevirtual 305, 3) := by decide +kernel
theorem dX6_digest_44 : decode cX6_digest 44 = .ok (.i2l, 1) := by decide +kernel
theorem dX6_digest_45 : decode cX6_digest 45 = .ok (.invokestatic 301, 3) := by decide +kernel
theorem dX6_digest_48 : decode cX6_digest 48 = .ok (.lstore_n 1, 1) := by decide +kernel
theorem dX6_digest_49 : decode cX6_digest 49 = .ok (.iconst 0, 1) := by decide +kernel
theorem dX6_digest_50 : decode cX6_digest 50 = .ok (.istore_n 3, 1) := by decide +kernel
theorem dX6_digest_51 : decode cX6_digest 51 = .ok (.iload_n 3, 1) := by decide +kernel
theorem dX6_digest_52 : decode cX6_digest 52 = .ok (.bipush 24, 2) := by decide +kernel
theorem dX6_digest_54 : decode cX6_digest 54 = .ok (.if_icmp .ge 41, 3) := by decide +kernel
theorem dX6_digest_57 : decode cX6_digest 57 = .ok (.lload_n 1, 1) := by decide +kernel
theorem dX6_digest_58 : decode cX6_digest 58 = .ok (.aload_n 0, 1) := by decide +kernel
theorem dX6_digest_59 : decode cX6_digest 59 = .ok (.iload_n 3, 1) := by decide +kernel
theorem dX6_digest_60 : decode cX6_digest 60 = .ok (.iconst 0, 1) := by decide +kernel
theorem dX6_digest_61 : decode cX6_digest 61 = .ok (.invokevirtual 308, 3) := by decide +kernel
theorem dX6_digest_64 : decode cX6_digest 64 = .ok (.i2l, 1) := by decide +kernel
theorem dX6_digest_65 : decode cX6_digest 65 = .ok (.invokestatic 301, 3) := by decide +kernel
theorem dX6_digest_68 : decode cX6_digest 68 = .ok (.aload_n 0, 1) := by decide +kernel
theorem dX6_digest_69 : decode cX6_digest 69 = .ok (.iload_n 3, 1) := by decide +kernel
theorem dX6_digest_70 : decode cX6_digest 70 = .ok (.iconst 1, 1) := by decide +kernel
theorem dX6_digest_71 : decode cX6_digest 71 = .ok (.invokevirtual 308, 3) := by decide +kernel
theorem dX6_digest_74 : decode cX6_digest 74 = .ok (.i2l, 1) := by decide +kernel
theorem dX6_digest_75 : decode cX6_digest 75 = .ok (.invokestatic 301, 3) := by decide +kernel
theorem dX6_digest_78 : decode cX6_digest 78 = .ok (.aload_n 0, 1) := by decide +kernel
theorem dX6_digest_79 : decode cX6_digest 79 = .ok (.iload_n 3, 1) := by decide +kernel
theorem dX6_digest_80 : decode cX6_digest 80 = .ok (.iconst 2, 1) := by decide +kernel
theorem dX6_digest_81 : decode cX6_digest 81 = .ok (.invokevirtual 308, 3) := by decide +kernel
theorem dX6_digest_84 : decode cX6_digest 84 = .ok (.i2l, 1) := by decide +kernel
theorem dX6_digest_85 : decode cX6_digest 85 = .ok (.invokestatic 301, 3) := by decide +kernel
theorem dX6_digest_88 : decode cX6_digest 88 = .ok (.lstore_n 1, 1) := by decide +kernel
theorem dX6_digest_89 : decode cX6_digest 89 = .ok (.iinc 3 1, 3) := by decide +kernel
theorem dX6_digest_92 : decode cX6_digest 92 = .ok (.goto (-41), 3) := by decide +kernel
theorem dX6_digest_95 : decode cX6_digest 95 = .ok (.aload_n 0, 1) := by decide +kernel
theorem dX6_digest_96 : decode cX6_digest 96 = .ok (.aload_n 0, 1) := by decide +kernel
theorem dX6_digest_97 : decode cX6_digest 97 = .ok (.lload_n 1, 1) := by decide +kernel
theorem dX6_digest_98 : decode cX6_digest 98 = .ok (.invokevirtual 311, 3) := by decide +kernel
theorem dX6_digest_101 : decode cX6_digest 101 = .ok (.invokevirtual 315, 3) := by decide +kernel
theorem dX6_digest_104 : decode cX6_digest 104 = .ok (.lstore_n 1, 1) := by decide +kernel
theorem dX6_digest_105 : decode cX6_digest 105 = .ok (.lload_n 1, 1) := by decide +kernel
theorem dX6_digest_106 : decode cX6_digest 106 = .ok (.aload_n 0, 1) := by decide +kernel
theorem dX6_digest_107 : decode cX6_digest 107 = .ok (.iconst 0, 1) := by decide +kernel
theorem dX6_digest_108 : decode cX6_digest 108 = .ok (.invokevirtual 318, 3) := by decide +kernel
theorem dX6_digest_111 : decode cX6_digest 111 = .ok (.i2l, 1) := by decide +kernel
theorem dX6_digest_112 : decode cX6_digest 112 = .ok (.invokestatic 301, 3) := by decide +kernel
theorem dX6_digest_115 : decode cX6_digest 115 = .ok (.aload_n 0, 1) := by decide +kernel
theorem dX6_digest_116 : decode cX6_digest 116 = .ok (.iconst 1, 1) := by decide +kernel
theorem dX6_digest_117 : decode cX6_digest 117 = .ok (.invokevirtual 318, 3) := by decide +kernel
theorem dX6_digest_120 : decode cX6_digest 120 = .ok (.i2l, 1) := by decide +kernel
theorem dX6_digest_121 : decode cX6_digest 121 = .ok (.invokestatic 301, 3) := by decide +kernel
theorem dX6_digest_124 : decode cX6_digest 124 = .ok (.aload_n 0, 1) := by decide +kernel
theorem dX6_digest_125 : decode cX6_digest 125 = .ok (.iconst 2, 1) := by decide +kernel
theorem dX6_digest_126 : decode cX6_digest 126 = .ok (.invokevirtual 318, 3) := by decide +kernel
theorem dX6_digest_129 : decode cX6_digest 129 = .ok (.i2l, 1) := by decide +kernel
theorem dX6_digest_130 : decode cX6_digest 130 = .ok (.invokestatic 301, 3) := by decide +kernel
theorem dX6_digest_133 : decode cX6_digest 133 = .ok (.lstore_n 1, 1) := by decide +kernel
theorem dX6_digest_134 : decode cX6_digest 134 = .ok (.lload_n 1, 1) := by decide +kernel
theorem dX6_digest_135 : decode cX6_digest 135 = .ok (.aload_n 0, 1) := by decide +kernel
theorem dX6_digest_136 : decode cX6_digest 136 = .ok (.invokevirtual 321, 3) := by decide +kernel
theorem dX6_digest_139 : decode cX6_digest 139 = .ok (.i2l, 1) := by decide +kernel
theorem dX6_digest_140 : decode cX6_digest 140 = .ok (.invokestatic 301, 3) := by decide +kernel
theorem dX6_digest_143 : decode cX6_digest 143 = .ok (.aload_n 0, 1) := by decide +kernel
theorem dX6_digest_144 : decode cX6_digest 144 = .ok (.invokevirtual 324, 3) := by decide +kernel
theorem dX6_digest_147 : decode cX6_digest 147 = .ok (.i2l, 1) := by decide +kernel
theorem dX6_digest_148 : decode cX6_digest 148 = .ok (.invokestatic 301, 3) := by decide +kernel
theorem dX6_digest_151 : decode cX6_digest 151 = .ok (.aload_n 0, 1) := by decide +kernel
theorem dX6_digest_152 : decode cX6_digest 152 = .ok (.invokevirtual 327, 3) := by decide +kernel
theorem dX6_digest_155 : decode cX6_digest 155 = .ok (.i2l, 1) := by decide +kernel
theorem dX6_digest_156 : decode cX6_digest 156 = .ok (.invokestatic 301, 3) := by decide +kernel
theorem dX6_digest_159 : decode cX6_digest 159 = .ok (.lstore_n 1, 1) := by decide +kernel
theorem dX6_digest_160 : decode cX6_digest 160 = .ok (.lload_n 1, 1) := by decide +kernel
theorem dX6_digest_161 : decode cX6_digest 161 = .ok (.aload_n 0, 1) := by decide +kernel
theorem dX6_digest_162 : decode cX6_digest 162 = .ok (.iconst 0, 1) := by decide +kernel
theorem dX6_digest_163 : decode cX6_digest 163 = .ok (.invokevirtual 330, 3) := by decide +kernel
theorem dX6_digest_166 : decode cX6_digest 166 = .ok (.i2l, 1) := by decide +kernel
theorem dX6_digest_167 : decode cX6_digest 167 = .ok (.invokestatic 301, 3) := by decide +kernel
theorem dX6_digest_170 : decode cX6_digest 170 = .ok (.aload_n 0, 1) := by decide +kernel
theorem dX6_digest_171 : decode cX6_digest 171 = .ok (.iconst 1, 1) := by decide +kernel
theorem dX6_digest_172 : decode cX6_digest 172 = .ok (.invokevirtual 330, 3) := by decide +kernel
theorem dX6_digest_175 : decode cX6_digest 175 = .ok (.i2l, 1) := by decide +kernel
theorem dX6_digest_176 : decode cX6_digest 176 = .ok (.invokestatic 301, 3) := by decide +kernel
theorem dX6_digest_179 : decode cX6_digest 179 = .ok (.lstore_n 1, 1) := by decide +kernel
theorem dX6_digest_180 : decode cX6_digest 180 = .ok (.lload_n 1, 1) := by decide +kernel
theorem dX6_digest_181 : decode cX6_digest 181 = .ok (.aload_n 0, 1) := by decide +kernel
theorem dX6_digest_182 : decode cX6_digest 182 = .ok (.iconst 0, 1) := by decide +kernel
theorem dX6_digest_183 : decode cX6_digest 183 = .ok (.invokevirtual 333, 3) := by decide +kernel
theorem dX6_digest_186 : decode cX6_digest 186 = .ok (.i2l, 1) := by decide +kernel
theorem dX6_digest_187 : decode cX6_digest 187 = .ok (.invokestatic 301, 3) := by decide +kernel
theorem dX6_digest_190 : decode cX6_digest 190 = .ok (.aload_n 0, 1) := by decide +kernel
theorem dX6_digest_191 : decode cX6_digest 191 = .ok (.iconst 1, 1) := by decide +kernel
theorem dX6_digest_192 : decode cX6_digest 192 = .ok (.invokevirtual 333, 3) := by decide +kernel
theorem dX6_digest_195 : decode cX6_digest 195 = .ok (.i2l, 1) := by decide +kernel
theorem dX6_digest_196 : decode cX6_digest 196 = .ok (.invokestatic 301, 3) := by decide +kernel
theorem dX6_digest_199 : decode cX6_digest 199 = .ok (.aload_n 0, 1) := by decide +kernel
theorem dX6_digest_200 : decode cX6_digest 200 = .ok (.iconst 2, 1) := by decide +kernel
theorem dX6_digest_201 : decode cX6_digest 201 = .ok (.invokevirtual 333, 3) := by decide +kernel
theorem dX6_digest_204 : decode cX6_digest 204 = .ok (.i2l, 1) := by decide +kernel
theorem dX6_digest_205 : decode cX6_digest 205 = .ok (.invokestatic 301, 3) := by decide +kernel
theorem dX6_digest_208 : decode cX6_digest 208 = .ok (.lstore_n 1, 1) := by decide +kernel
theorem dX6_digest_209 : decode cX6_digest 209 = .ok (.lload_n 1, 1) := by decide +kernel
theorem dX6_digest_210 : decode cX6_digest 210 = .ok (.aload_n 0, 1) := by decide +kernel
theorem dX6_digest_211 : decode cX6_digest 211 = .ok (.iconst 0, 1) := by decide +kernel
theorem dX6_digest_212 : decode cX6_digest 212 = .ok (.invokevirtual 336, 3) := by decide +kernel
theorem dX6_digest_215 : decode cX6_digest 215 = .ok (.i2l, 1) := by decide +kernel
theorem dX6_digest_216 : decode cX6_digest 216 = .ok (.invokestatic 301, 3) := by decide +kernel
theorem dX6_digest_219 : decode cX6_digest 219 = .ok (.aload_n 0, 1) := by decide +kernel
theorem dX6_digest_220 : decode cX6_digest 220 = .ok (.iconst 1, 1) := by decide +kernel
theorem dX6_digest_221 : decode cX6_digest 221 = .ok (.invokevirtual 336, 3) := by decide +kernel
theorem dX6_digest_224 : decode cX6_digest 224 = .ok (.i2l, 1) := by decide +kernel
theorem dX6_digest_225 : decode cX6_digest 225 = .ok (.invokestatic 301, 3) := by decide +kernel
theorem dX6_digest_228 : decode cX6_digest 228 = .ok (.lstore_n 1, 1) := by decide +kernel
theorem dX6_digest_229 : decode cX6_digest 229 = .ok (.lload_n 1, 1) := by decide +kernel
theorem dX6_digest_230 : decode cX6_digest 230 = .ok (.aload_n 0, 1) := by decide +kernel
theorem dX6_digest_231 : decode cX6_digest 231 = .ok (.iconst (-1), 1) := by decide +kernel
theorem dX6_digest_232 : decode cX6_digest 232 = .ok (.invokevirtual 339, 3) := by decide +kernel
theorem dX6_digest_235 : decode cX6_digest 235 = .ok (.i2l, 1) := by decide +kernel
theorem dX6_digest_236 : decode cX6_digest 236 = .ok (.invokestatic 301, 3) := by decide +kernel
theorem dX6_digest_239 : decode cX6_digest 239 = .ok (.aload_n 0, 1) := by decide +kernel
theorem dX6_digest_240 : decode cX6_digest 240 = .ok (.iconst 0, 1) := by decide +kernel
theorem dX6_digest_241 : decode cX6_digest 241 = .ok (.invokevirtual 339, 3) := by decide +kernel
theorem dX6_digest_244 : decode cX6_digest 244 = .ok (.i2l, 1) := by decide +kernel
theorem dX6_digest_245 : decode cX6_digest 245 = .ok (.invokestatic 301, 3) := by decide +kernel
theorem dX6_digest_248 : decode cX6_digest 248 = .ok (.lstore_n 1, 1) := by decide +kernel
theorem dX6_digest_249 : decode cX6_digest 249 = .ok (.lload_n 1, 1) := by decide +kernel
theorem dX6_digest_250 : decode cX6_digest 250 = .ok (.aload_n 0, 1) := by decide +kernel
theorem dX6_digest_251 : decode cX6_digest 251 = .ok (.invokevirtual 342, 3) := by decide +kernel
theorem dX6_digest_254 : decode cX6_digest 254 = .ok (.i2l, 1) := by decide +kernel
theorem dX6_digest_255 : decode cX6_digest 255 = .ok (.invokestatic 301, 3) := by decide +kernel
theorem dX6_digest_258 : decode cX6_digest 258 = .ok (.lstore_n 1, 1) := by decide +kernel
theorem dX6_digest_259 : decode cX6_digest 259 = .ok (.lload_n 1, 1) := by decide +kernel
theorem dX6_digest_260 : decode cX6_digest 260 = .ok (.aload_n 0, 1) := by decide +kernel
theorem dX6_digest_261 : decode cX6_digest 261 = .ok (.bipush 7, 2) := by decide +kernel
theorem dX6_digest_263 : decode cX6_digest 263 = .ok (.bipush 12, 2) := by decide +kernel
theorem dX6_digest_265 : decode cX6_digest 265 = .ok (.iconst 0, 1) := by decide +kernel
theorem dX6_digest_266 : decode cX6_digest 266 = .ok (.invokevirtual 345, 3) := by decide +kernel
theorem dX6_digest_269 : decode cX6_digest 269 = .ok (.i2l, 1) := by decide +kernel
theorem dX6_digest_270 : decode cX6_digest 270 = .ok (.invokestatic 301, 3) := by decide +kernel
theorem dX6_digest_273 : decode cX6_digest 273 = .ok (.aload_n 0, 1) := by decide +kernel
theorem dX6_digest_274 : decode cX6_digest 274 = .ok (.bipush 7, 2) := by decide +kernel
theorem dX6_digest_276 : decode cX6_digest 276 = .ok (.bipush 12, 2) := by decide +kernel
theorem dX6_digest_278 : decode cX6_digest 278 = .ok (.iconst 1, 1) := by decide +kernel
theorem dX6_digest_279 : decode cX6_digest 279 = .ok (.invokevirtual 345, 3) := by decide +kernel
theorem dX6_digest_282 : decode cX6_digest 282 = .ok (.i2l, 1) := by decide +kernel
theorem dX6_digest_283 : decode cX6_digest 283 = .ok (.invokestatic 301, 3) := by decide +kernel
theorem dX6_digest_286 : decode cX6_digest 286 = .ok (.lreturn, 1) := by decide +kernel
theorem dX6_mixNotes_0 : decode cX6_mixNotes 0 = .ok (.lload_n 1, 1) := by decide +kernel
theorem dX6_mixNotes_1 : decode cX6_mixNotes 1 = .ok (.lstore_n 3, 1) := by decide +kernel
theorem dX6_mixNotes_2 : decode cX6_mixNotes 2 = .ok (.iconst 0, 1) := by decide +kernel
theorem dX6_mixNotes_3 : decode cX6_mixNotes 3 = .ok (.istore 5, 2) := by decide +kernel
theorem dX6_mixNotes_5 : decode cX6_mixNotes 5 = .ok (.iload 5, 2) := by decide +kernel
theorem dX6_mixNotes_7 : decode cX6_mixNotes 7 = .ok (.bipush 16, 2) := by decide +kernel
theorem dX6_mixNotes_9 : decode cX6_mixNotes 9 = .ok (.if_icmp .ge 33, 3) := by decide +kernel
theorem dX6_mixNotes_12 : decode cX6_mixNotes 12 = .ok (.lload_n 3, 1) := by decide +kernel
theorem dX6_mixNotes_13 : decode cX6_mixNotes 13 = .ok (.aload_n 0, 1) := by decide +kernel
theorem dX6_mixNotes_14 : decode cX6_mixNotes 14 = .ok (.iload 5, 2) := by decide +kernel
theorem dX6_mixNotes_16 : decode cX6_mixNotes 16 = .ok (.iconst 0, 1) := by decide +kernel
theorem dX6_mixNotes_17 : decode cX6_mixNotes 17 = .ok (.invokevirtual 349, 3) := by decide +kernel
theorem dX6_mixNotes_20 : decode cX6_mixNotes 20 = .ok (.i2l, 1) := by decide +kernel
theorem dX6_mixNotes_21 : decode cX6_mixNotes 21 = .ok (.invokestatic 301, 3) := by decide +kernel
theorem dX6_mixNotes_24 : decode cX6_mixNotes 24 = .ok (.aload_n 0, 1) := by decide +kernel
theorem dX6_mixNotes_25 : decode cX6_mixNotes 25 = .ok (.iload 5, 2) := by decide +kernel
theorem dX6_mixNotes_27 : decode cX6_mixNotes 27 = .ok (.iconst 1, 1) := by decide +kernel
theorem dX6_mixNotes_28 : decode cX6_mixNotes 28 = .ok (.invokevirtual 349, 3) := by decide +kernel
theorem dX6_mixNotes_31 : decode cX6_mixNotes 31 = .ok (.i2l, 1) := by decide +kernel
theorem dX6_mixNotes_32 : decode cX6_mixNotes 32 = .ok (.invokestatic 301, 3) := by decide +kernel
theorem dX6_mixNotes_35 : decode cX6_mixNotes 35 = .ok (.lstore_n 3, 1) := by decide +kernel
theorem dX6_mixNotes_36 : decode cX6_mixNotes 36 = .ok (.iinc 5 1, 3) := by decide +kernel
theorem dX6_mixNotes_39 : decode cX6_mixNotes 39 = .ok (.goto (-34), 3) := by decide +kernel
theorem dX6_mixNotes_42 : decode cX6_mixNotes 42 = .ok (.iconst 0, 1) := by decide +kernel
theorem dX6_mixNotes_43 : decode cX6_mixNotes 43 = .ok (.istore 5, 2) := by decide +kernel
theorem dX6_mixNotes_45 : decode cX6_mixNotes 45 = .ok (.iload 5, 2) := by decide +kernel
theorem dX6_mixNotes_47 : decode cX6_mixNotes 47 = .ok (.aload_n 0, 1) := by decide +kernel
theorem dX6_mixNotes_48 : decode cX6_mixNotes 48 = .ok (.getfield 24, 3) := by decide +kernel
theorem dX6_mixNotes_51 : decode cX6_mixNotes 51 = .ok (.getfield 120, 3) := by decide +kernel
theorem dX6_mixNotes_54 : decode cX6_mixNotes 54 = .ok (.if_icmp .ge 43, 3) := by decide +kernel
theorem dX6_mixNotes_57 : decode cX6_mixNotes 57 = .ok (.lload_n 3, 1) := by decide +kernel
theorem dX6_mixNotes_58 : decode cX6_mixNotes 58 = .ok (.aload_n 0, 1) := by decide +kernel
theorem dX6_mixNotes_59 : decode cX6_mixNotes 59 = .ok (.iload 5, 2) := by decide +kernel
theorem dX6_mixNotes_61 : decode cX6_mixNotes 61 = .ok (.invokevirtual 352, 3) := by decide +kernel
theorem dX6_mixNotes_64 : decode cX6_mixNotes 64 = .ok (.i2l, 1) := by decide +kernel
theorem dX6_mixNotes_65 : decode cX6_mixNotes 65 = .ok (.invokestatic 301, 3) := by decide +kernel
theorem dX6_mixNotes_68 : decode cX6_mixNotes 68 = .ok (.aload_n 0, 1) := by decide +kernel
theorem dX6_mixNotes_69 : decode cX6_mixNotes 69 = .ok (.iconst 5, 1) := by decide +kernel
theorem dX6_mixNotes_70 : decode cX6_mixNotes 70 = .ok (.iload 5, 2) := by decide +kernel
theorem dX6_mixNotes_72 : decode cX6_mixNotes 72 = .ok (.iconst 0, 1) := by decide +kernel
theorem dX6_mixNotes_73 : decode cX6_mixNotes 73 = .ok (.invokevirtual 355, 3) := by decide +kernel
theorem dX6_mixNotes_76 : decode cX6_mixNotes 76 = .ok (.invokestatic 301, 3) := by decide +kernel
theorem dX6_mixNotes_79 : decode cX6_mixNotes 79 = .ok (.aload_n 0, 1) := by decide +kernel
theorem dX6_mixNotes_80 : decode cX6_mixNotes 80 = .ok (.iconst 5, 1) := by decide +kernel
theorem dX6_mixNotes_81 : decode cX6_mixNotes 81 = .ok (.iload 5, 2) := by decide +kernel
theorem dX6_mixNotes_83 : decode cX6_mixNotes 83 = .ok (.iconst 1, 1) := by decide +kernel
theorem dX6_mixNotes_84 : decode cX6_mixNotes 84 = .ok (.invokevirtual 355, 3) := by decide +kernel
theorem dX6_mixNotes_87 : decode cX6_mixNotes 87 = .ok (.invokestatic 301, 3) := by decide +kernel
theorem dX6_mixNotes_90 : decode cX6_mixNotes 90 = .ok (.lstore_n 3, 1) := by decide +kernel
theorem dX6_mixNotes_91 : decode cX6_mixNotes 91 = .ok (.iinc 5 1, 3) := by decide +kernel
theorem dX6_mixNotes_94 : decode cX6_mixNotes 94 = .ok (.goto (-49), 3) := by decide +kernel
theorem dX6_mixNotes_97 : decode cX6_mixNotes 97 = .ok (.lload_n 3, 1) := by decide +kernel
theorem dX6_mixNotes_98 : decode cX6_mixNotes 98 = .ok (.lreturn, 1) := by decide +kernel
theorem dX6_mixPlayers_0 : decode cX6_mixPlayers 0 = .ok (.lload_n 1, 1) := by decide +kernel
theorem dX6_mixPlayers_1 : decode cX6_mixPlayers 1 = .ok (.lstore_n 3, 1) := by decide +kernel
theorem dX6_mixPlayers_2 : decode cX6_mixPlayers 2 = .ok (.iconst 0, 1) := by decide +kernel
theorem dX6_mixPlayers_3 : decode cX6_mixPlayers 3 = .ok (.istore 5, 2) := by decide +kernel
theorem dX6_mixPlayers_5 : decode cX6_mixPlayers 5 = .ok (.iload 5, 2) := by decide +kernel
theorem dX6_mixPlayers_7 : decode cX6_mixPlayers 7 = .ok (.aload_n 0, 1) := by decide +kernel
theorem dX6_mixPlayers_8 : decode cX6_mixPlayers 8 = .ok (.getfield 24, 3) := by decide +kernel
theorem dX6_mixPlayers_11 : decode cX6_mixPlayers 11 = .ok (.getfield 193, 3) := by decide +kernel
theorem dX6_mixPlayers_14 : decode cX6_mixPlayers 14 = .ok (.if_icmp .ge 102, 3) := by decide +kernel
theorem dX6_mixPlayers_17 : decode cX6_mixPlayers 17 = .ok (.lload_n 3, 1) := by decide +kernel
theorem dX6_mixPlayers_18 : decode cX6_mixPlayers 18 = .ok (.aload_n 0, 1) := by decide +kernel
theorem dX6_mixPlayers_19 : decode cX6_mixPlayers 19 = .ok (.iload 5, 2) := by decide +kernel
theorem dX6_mixPlayers_21 : decode cX6_mixPlayers 21 = .ok (.iconst 0, 1) := by decide +kernel
theorem dX6_mixPlayers_22 : decode cX6_mixPlayers 22 = .ok (.invokevirtual 359, 3) := by decide +kernel
theorem dX6_mixPlayers_25 : decode cX6_mixPlayers 25 = .ok (.i2l, 1) := by decide +kernel
theorem dX6_mixPlayers_26 : decode cX6_mixPlayers 26 = .ok (.invokestatic 301, 3) := by decide +kernel
theorem dX6_mixPlayers_29 : decode cX6_mixPlayers 29 = .ok (.aload_n 0, 1) := by decide +kernel
theorem dX6_mixPlayers_30 : decode cX6_mixPlayers 30 = .ok (.iload 5, 2) := by decide +kernel
theorem dX6_mixPlayers_32 : decode cX6_mixPlayers 32 = .ok (.iconst 1, 1) := by decide +kernel
theorem dX6_mixPlayers_33 : decode cX6_mixPlayers 33 = .ok (.invokevirtual 359, 3) := by decide +kernel
theorem dX6_mixPlayers_36 : decode cX6_mixPlayers 36 = .ok (.i2l, 1) := by decide +kernel
theorem dX6_mixPlayers_37 : decode cX6_mixPlayers 37 = .ok (.invokestatic 301, 3) := by decide +kernel
theorem dX6_mixPlayers_40 : decode cX6_mixPlayers 40 = .ok (.lstore_n 3, 1) := by decide +kernel
theorem dX6_mixPlayers_41 : decode cX6_mixPlayers 41 = .ok (.lload_n 3, 1) := by decide +kernel
theorem dX6_mixPlayers_42 : decode cX6_mixPlayers 42 = .ok (.aload_n 0, 1) := by decide +kernel
theorem dX6_mixPlayers_43 : decode cX6_mixPlayers 43 = .ok (.iload 5, 2) := by decide +kernel
theorem dX6_mixPlayers_45 : decode cX6_mixPlayers 45 = .ok (.iconst 0, 1) := by decide +kernel
theorem dX6_mixPlayers_46 : decode cX6_mixPlayers 46 = .ok (.invokevirtual 362, 3) := by decide +kernel
theorem dX6_mixPlayers_49 : decode cX6_mixPlayers 49 = .ok (.i2l, 1) := by decide +kernel
theorem dX6_mixPlayers_50 : decode cX6_mixPlayers 50 = .ok (.invokestatic 301, 3) := by decide +kernel
theorem dX6_mixPlayers_53 : decode cX6_mixPlayers 53 = .ok (.aload_n 0, 1) := by decide +kernel
theorem dX6_mixPlayers_54 : decode cX6_mixPlayers 54 = .ok (.iload 5, 2) := by decide +kernel
theorem dX6_mixPlayers_56 : decode cX6_mixPlayers 56 = .ok (.iconst 1, 1) := by decide +kernel
theorem dX6_mixPlayers_57 : decode cX6_mixPlayers 57 = .ok (.invokevirtual 362, 3) := by decide +kernel
theorem dX6_mixPlayers_60 : decode cX6_mixPlayers 60 = .ok (.i2l, 1) := by decide +kernel
theorem dX6_mixPlayers_61 : decode cX6_mixPlayers 61 = .ok (.invokestatic 301, 3) := by decide +kernel
theorem dX6_mixPlayers_64 : decode cX6_mixPlayers 64 = .ok (.aload_n 0, 1) := by decide +kernel
theorem dX6_mixPlayers_65 : decode cX6_mixPlayers 65 = .ok (.iload 5, 2) := by decide +kernel
theorem dX6_mixPlayers_67 : decode cX6_mixPlayers 67 = .ok (.iconst 2, 1) := by decide +kernel
theorem dX6_mixPlayers_68 : decode cX6_mixPlayers 68 = .ok (.invokevirtual 362, 3) := by decide +kernel
theorem dX6_mixPlayers_71 : decode cX6_mixPlayers 71 = .ok (.i2l, 1) := by decide +kernel
theorem dX6_mixPlayers_72 : decode cX6_mixPlayers 72 = .ok (.invokestatic 301, 3) := by decide +kernel
theorem dX6_mixPlayers_75 : decode cX6_mixPlayers 75 = .ok (.lstore_n 3, 1) := by decide +kernel
theorem dX6_mixPlayers_76 : decode cX6_mixPlayers 76 = .ok (.lload_n 3, 1) := by decide +kernel
theorem dX6_mixPlayers_77 : decode cX6_mixPlayers 77 = .ok (.aload_n 0, 1) := by decide +kernel
theorem dX6_mixPlayers_78 : decode cX6_mixPlayers 78 = .ok (.iload 5, 2) := by decide +kernel
theorem dX6_mixPlayers_80 : decode cX6_mixPlayers 80 = .ok (.iconst 0, 1) := by decide +kernel
theorem dX6_mixPlayers_81 : decode cX6_mixPlayers 81 = .ok (.invokevirtual 365, 3) := by decide +kernel
theorem dX6_mixPlayers_84 : decode cX6_mixPlayers 84 = .ok (.i2l, 1) := by decide +kernel
theorem dX6_mixPlayers_85 : decode cX6_mixPlayers 85 = .ok (.invokestatic 301, 3) := by decide +kernel
theorem dX6_mixPlayers_88 : decode cX6_mixPlayers 88 = .ok (.aload_n 0, 1) := by decide +kernel
theorem dX6_mixPlayers_89 : decode cX6_mixPlayers 89 = .ok (.iload 5, 2) := by decide +kernel
theorem dX6_mixPlayers_91 : decode cX6_mixPlayers 91 = .ok (.iconst 1, 1) := by decide +kernel
theorem dX6_mixPlayers_92 : decode cX6_mixPlayers 92 = .ok (.invokevirtual 365, 3) := by decide +kernel
theorem dX6_mixPlayers_95 : decode cX6_mixPlayers 95 = .ok (.i2l, 1) := by decide +kernel
theorem dX6_mixPlayers_96 : decode cX6_mixPlayers 96 = .ok (.invokestatic 301, 3) := by decide +kernel
theorem dX6_mixPlayers_99 : decode cX6_mixPlayers 99 = .ok (.aload_n 0, 1) := by decide +kernel
theorem dX6_mixPlayers_100 : decode cX6_mixPlayers 100 = .ok (.iload 5, 2) := by decide +kernel
theorem dX6_mixPlayers_102 : decode cX6_mixPlayers 102 = .ok (.invokevirtual 368, 3) := by decide +kernel
theorem dX6_mixPlayers_105 : decode cX6_mixPlayers 105 = .ok (.i2l, 1) := by decide +kernel
theorem dX6_mixPlayers_106 : decode cX6_mixPlayers 106 = .ok (.invokestatic 301, 3) := by decide +kernel
theorem dX6_mixPlayers_109 : decode cX6_mixPlayers 109 = .ok (.lstore_n 3, 1) := by decide +kernel
theorem dX6_mixPlayers_110 : decode cX6_mixPlayers 110 = .ok (.iinc 5 1, 3) := by decide +kernel
theorem dX6_mixPlayers_113 : decode cX6_mixPlayers 113 = .ok (.goto (-108), 3) := by decide +kernel
theorem dX6_mixPlayers_116 : decode cX6_mixPlayers 116 = .ok (.lload_n 3, 1) := by decide +kernel
theorem dX6_mixPlayers_117 : decode cX6_mixPlayers 117 = .ok (.lreturn, 1) := by decide +kernel
theorem dX6_mix_0 : decode cX6_mix 0 = .ok (.ldc2_w 371, 3) := by decide +kernel
theorem dX6_mix_3 : decode cX6_mix 3 = .ok (.lload_n 0, 1) := by decide +kernel
theorem dX6_mix_4 : decode cX6_mix 4 = .ok (.lmul, 1) := by decide +kernel
theorem dX6_mix_5 : decode cX6_mix 5 = .ok (.lload_n 2, 1) := by decide +kernel
theorem dX6_mix_6 : decode cX6_mix 6 = .ok (.ladd, 1) := by decide +kernel
theorem dX6_mix_7 : decode cX6_mix 7 = .ok (.lreturn, 1) := by decide +kernel
theorem dX6_within_0 : decode cX6_within 0 = .ok (.iload_n 0, 1) := by decide +kernel
theorem dX6_within_1 : decode cX6_within 1 = .ok (.iload_n 1, 1) := by decide +kernel
theorem dX6_within_2 : decode cX6_within 2 = .ok (.if_icmp .lt 12, 3) := by decide +kernel
theorem dX6_within_5 : decode cX6_within 5 = .ok (.iload_n 0, 1) := by decide +kernel
theorem dX6_within_6 : decode cX6_within 6 = .ok (.iload_n 2, 1) := by decide +kernel
theorem dX6_within_7 : decode cX6_within 7 = .ok (.if_icmp .gt 7, 3) := by decide +kernel
theorem dX6_within_10 : decode cX6_within 10 = .ok (.iconst 1, 1) := by decide +kernel
theorem dX6_within_11 : decode cX6_within 11 = .ok (.goto 4, 3) := by decide +kernel
theorem dX6_within_14 : decode cX6_within 14 = .ok (.iconst 0, 1) := by decide +kernel
theorem dX6_within_15 : decode cX6_within 15 = .ok (.ireturn, 1) := by decide +kernel
theorem dX6_isEvent_0 : decode cX6_isEvent 0 = .ok (.iload_n 0, 1) := by decide +kernel
theorem dX6_isEvent_1 : decode cX6_isEvent 1 = .ok (.iconst 0, 1) := by decide +kernel
theorem dX6_isEvent_2 : decode cX6_isEvent 2 = .ok (.iconst 2, 1) := by decide +kernel
theorem dX6_isEvent_3 : decode cX6_isEvent 3 = .ok (.invokestatic 89, 3) := by decide +kernel
theorem dX6_isEvent_6 : decode cX6_isEvent 6 = .ok (.ifCond .eq 17, 3) := by decide +kernel
theorem dX6_isEvent_9 : decode cX6_isEvent 9 = .ok (.iload_n 1, 1) := by decide +kernel
theorem dX6_isEvent_10 : decode cX6_isEvent 10 = .ok (.iconst 0, 1) := by decide +kernel
theorem dX6_isEvent_11 : decode cX6_isEvent 11 = .ok (.bipush 23, 2) := by decide +kernel
theorem dX6_isEvent_13 : decode cX6_isEvent 13 = .ok (.invokestatic 89, 3) := by decide +kernel
theorem dX6_isEvent_16 : decode cX6_isEvent 16 = .ok (.ifCond .eq 7, 3) := by decide +kernel
theorem dX6_isEvent_19 : decode cX6_isEvent 19 = .ok (.iconst 1, 1) := by decide +kernel
theorem dX6_isEvent_20 : decode cX6_isEvent 20 = .ok (.goto 4, 3) := by decide +kernel
theorem dX6_isEvent_23 : decode cX6_isEvent 23 = .ok (.iconst 0, 1) := by decide +kernel
theorem dX6_isEvent_24 : decode cX6_isEvent 24 = .ok (.ireturn, 1) := by decide +kernel
theorem dX6_isPlayer_0 : decode cX6_isPlayer 0 = .ok (.iload_n 1, 1) := by decide +kernel
theorem dX6_isPlayer_1 : decode cX6_isPlayer 1 = .ok (.iconst 0, 1) := by decide +kernel
theorem dX6_isPlayer_2 : decode cX6_isPlayer 2 = .ok (.aload_n 0, 1) := by decide +kernel
theorem dX6_isPlayer_3 : decode cX6_isPlayer 3 = .ok (.getfield 24, 3) := by decide +kernel
theorem dX6_isPlayer_6 : decode cX6_isPlayer 6 = .ok (.getfield 193, 3) := by decide +kernel
theorem dX6_isPlayer_9 : decode cX6_isPlayer 9 = .ok (.iconst 1, 1) := by decide +kernel
theorem dX6_isPlayer_10 : decode cX6_isPlayer 10 = .ok (.isub, 1) := by decide +kernel
theorem dX6_isPlayer_11 : decode cX6_isPlayer 11 = .ok (.invokestatic 89, 3) := by decide +kernel
theorem dX6_isPlayer_14 : decode cX6_isPlayer 14 = .ok (.ireturn, 1) := by decide +kernel
theorem dX6_isNote_0 : decode cX6_isNote 0 = .ok (.iload_n 1, 1) := by decide +kernel
theorem dX6_isNote_1 : decode cX6_isNote 1 = .ok (.iconst 0, 1) := by decide +kernel
theorem dX6_isNote_2 : decode cX6_isNote 2 = .ok (.aload_n 0, 1) := by decide +kernel
theorem dX6_isNote_3 : decode cX6_isNote 3 = .ok (.getfield 24, 3) := by decide +kernel
theorem dX6_isNote_6 : decode cX6_isNote 6 = .ok (.getfield 120, 3) := by decide +kernel
theorem dX6_isNote_9 : decode cX6_isNote 9 = .ok (.iconst 1, 1) := by decide +kernel
theorem dX6_isNote_10 : decode cX6_isNote 10 = .ok (.isub, 1) := by decide +kernel
theorem dX6_isNote_11 : decode cX6_isNote 11 = .ok (.invokestatic 89, 3) := by decide +kernel
theorem dX6_isNote_14 : decode cX6_isNote 14 = .ok (.ireturn, 1) := by decide +kernel
theorem dX6_textOf_0 : decode cX6_textOf 0 = .ok (.iload_n 1, 1) := by decide +kernel
theorem dX6_textOf_1 : decode cX6_textOf 1 = .ok (.ifCond .ne 10, 3) := by decide +kernel
theorem dX6_textOf_4 : decode cX6_textOf 4 = .ok (.aload_n 0, 1) := by decide +kernel
theorem dX6_textOf_5 : decode cX6_textOf 5 = .ok (.getfield 14, 3) := by decide +kernel
theorem dX6_textOf_8 : decode cX6_textOf 8 = .ok (.goto 7, 3) := by decide +kernel
theorem dX6_textOf_11 : decode cX6_textOf 11 = .ok (.aload_n 0, 1) := by decide +kernel
theorem dX6_textOf_12 : decode cX6_textOf 12 = .ok (.getfield 18, 3) := by decide +kernel
theorem dX6_textOf_15 : decode cX6_textOf 15 = .ok (.areturn, 1) := by decide +kernel
theorem dX6_found_0 : decode cX6_found 0 = .ok (.aload_n 0, 1) := by decide +kernel
theorem dX6_found_1 : decode cX6_found 1 = .ok (.iload_n 1, 1) := by decide +kernel
theorem dX6_found_2 : decode cX6_found 2 = .ok (.putfield 84, 3) := by decide +kernel
theorem dX6_found_5 : decode cX6_found 5 = .ok (.bipush (-10), 2) := by decide +kernel
theorem dX6_found_7 : decode cX6_found 7 = .ok (.iload_n 1, 1) := by decide +kernel
theorem dX6_found_8 : decode cX6_found 8 = .ok (.isub, 1) := by decide +kernel
theorem dX6_found_9 : decode cX6_found 9 = .ok (.ireturn, 1) := by decide +kernel
theorem dX6_takeTexts_0 : decode cX6_takeTexts 0 = .ok (.aload_n 0, 1) := by decide +kernel
theorem dX6_takeTexts_1 : decode cX6_takeTexts 1 = .ok (.getfield 24, 3) := by decide +kernel
theorem dX6_takeTexts_4 : decode cX6_takeTexts 4 = .ok (.aload_n 0, 1) := by decide +kernel
theorem dX6_takeTexts_5 : decode cX6_takeTexts 5 = .ok (.getfield 14, 3) := by decide +kernel
theorem dX6_takeTexts_8 : decode cX6_takeTexts 8 = .ok (.invokevirtual 373, 3) := by decide +kernel
theorem dX6_takeTexts_11 : decode cX6_takeTexts 11 = .ok (.aload_n 0, 1) := by decide +kernel
theorem dX6_takeTexts_12 : decode cX6_takeTexts 12 = .ok (.getfield 24, 3) := by decide +kernel
theorem dX6_takeTexts_15 : decode cX6_takeTexts 15 = .ok (.aload_n 0, 1) := by decide +kernel
theorem dX6_takeTexts_16 : decode cX6_takeTexts 16 = .ok (.getfield 18, 3) := by decide +kernel
theorem dX6_takeTexts_19 : decode cX6_takeTexts 19 = .ok (.invokevirtual 377, 3) := by decide +kernel
theorem dX6_takeTexts_22 : decode cX6_takeTexts 22 = .ok (.aload_n 0, 1) := by decide +kernel
theorem dX6_takeTexts_23 : decode cX6_takeTexts 23 = .ok (.invokevirtual 132, 3) := by decide +kernel
theorem dX6_takeTexts_26 : decode cX6_takeTexts 26 = .ok (.return_, 1) := by decide +kernel
theorem dX6_unlearn_0 : decode cX6_unlearn 0 = .ok (.aload_n 0, 1) := by decide +kernel
theorem dX6_unlearn_1 : decode cX6_unlearn 1 = .ok (.iconst 0, 1) := by decide +kernel
theorem dX6_unlearn_2 : decode cX6_unlearn 2 = .ok (.putfield 77, 3) := by decide +kernel
theorem dX6_unlearn_5 : decode cX6_unlearn 5 = .ok (.aload_n 0, 1) := by decide +kernel
theorem dX6_unlearn_6 : decode cX6_unlearn 6 = .ok (.iconst 0, 1) := by decide +kernel
theorem dX6_unlearn_7 : decode cX6_unlearn 7 = .ok (.putfield 81, 3) := by decide +kernel
theorem dX6_unlearn_10 : decode cX6_unlearn 10 = .ok (.aload_n 0, 1) := by decide +kernel
theorem dX6_unlearn_11 : decode cX6_unlearn 11 = .ok (.getfield 51, 3) := by decide +kernel
theorem dX6_unlearn_14 : decode cX6_unlearn 14 = .ok (.iconst 0, 1) := by decide +kernel
theorem dX6_unlearn_15 : decode cX6_unlearn 15 = .ok (.putfield 196, 3) := by decide +kernel
theorem dX6_unlearn_18 : decode cX6_unlearn 18 = .ok (.aload_n 0, 1) := by decide +kernel
theorem dX6_unlearn_19 : decode cX6_unlearn 19 = .ok (.getfield 55, 3) := by decide +kernel
theorem dX6_unlearn_22 : decode cX6_unlearn 22 = .ok (.iconst 0, 1) := by decide +kernel
theorem dX6_unlearn_23 : decode cX6_unlearn 23 = .ok (.putfield 196, 3) := by decide +kernel
theorem dX6_unlearn_26 : decode cX6_unlearn 26 = .ok (.aload_n 0, 1) := by decide +kernel
theorem dX6_unlearn_27 : decode cX6_unlearn 27 = .ok (.getfield 58, 3) := by decide +kernel
theorem dX6_unlearn_30 : decode cX6_unlearn 30 = .ok (.iconst 0, 1) := by decide +kernel
theorem dX6_unlearn_31 : decode cX6_unlearn 31 = .ok (.putfield 196, 3) := by decide +kernel
theorem dX6_unlearn_34 : decode cX6_unlearn 34 = .ok (.aload_n 0, 1) := by decide +kernel
theorem dX6_unlearn_35 : decode cX6_unlearn 35 = .ok (.getfield 61, 3) := by decide +kernel
theorem dX6_unlearn_38 : decode cX6_unlearn 38 = .ok (.iconst 0, 1) := by decide +kernel
theorem dX6_unlearn_39 : decode cX6_unlearn 39 = .ok (.putfield 196, 3) := by decide +kernel
theorem dX6_unlearn_42 : decode cX6_unlearn 42 = .ok (.return_, 1) := by decide +kernel
theorem dX6_runAsTold_0 : decode cX6_runAsTold 0 = .ok (.aload_n 0, 1) := by decide +kernel
theorem dX6_runAsTold_1 : decode cX6_runAsTold 1 = .ok (.getfield 77, 3) := by decide +kernel
theorem dX6_runAsTold_4 : decode cX6_runAsTold 4 = .ok (.ifCond .ne 19, 3) := by decide +kernel
theorem dX6_runAsTold_7 : decode cX6_runAsTold 7 = .ok (.aload_n 0, 1) := by decide +kernel
theorem dX6_runAsTold_8 : decode cX6_runAsTold 8 = .ok (.getfield 34, 3) := by decide +kernel
theorem dX6_runAsTold_11 : decode cX6_runAsTold 11 = .ok (.aload_n 0, 1) := by decide +kernel
theorem dX6_runAsTold_12 : decode cX6_runAsTold 12 = .ok (.getfield 24, 3) := by decide +kernel
theorem dX6_runAsTold_15 : decode cX6_runAsTold 15 = .ok (.invokevirtual 265, 3) := by decide +kernel
theorem dX6_runAsTold_18 : decode cX6_runAsTold 18 = .ok (.aload_n 0, 1) := by decide +kernel
theorem dX6_runAsTold_19 : decode cX6_runAsTold 19 = .ok (.iconst 1, 1) := by decide +kernel
theorem dX6_runAsTold_20 : decode cX6_runAsTold 20 = .ok (.putfield 77, 3) := by decide +kernel
theorem dX6_runAsTold_23 : decode cX6_runAsTold 23 = .ok (.aload_n 0, 1) := by decide +kernel
theorem dX6_runAsTold_24 : decode cX6_runAsTold 24 = .ok (.getfield 34, 3) := by decide +kernel
theorem dX6_runAsTold_27 : decode cX6_runAsTold 27 = .ok (.areturn, 1) := by decide +kernel
theorem dX6_triedSounds_0 : decode cX6_triedSounds 0 = .ok (.aload_n 0, 1) := by decide +kernel
theorem dX6_triedSounds_1 : decode cX6_triedSounds 1 = .ok (.getfield 38, 3) := by decide +kernel
theorem dX6_triedSounds_4 : decode cX6_triedSounds 4 = .ok (.aload_n 0, 1) := by decide +kernel
theorem dX6_triedSounds_5 : decode cX6_triedSounds 5 = .ok (.getfield 28, 3) := by decide +kernel
theorem dX6_triedSounds_8 : decode cX6_triedSounds 8 = .ok (.invokevirtual 265, 3) := by decide +kernel
theorem dX6_triedSounds_11 : decode cX6_triedSounds 11 = .ok (.aload_n 0, 1) := by decide +kernel
theorem dX6_triedSounds_12 : decode cX6_triedSounds 12 = .ok (.getfield 38, 3) := by decide +kernel
theorem dX6_triedSounds_15 : decode cX6_triedSounds 15 = .ok (.getfield 184, 3) := by decide +kernel
theorem dX6_triedSounds_18 : decode cX6_triedSounds 18 = .ok (.ireturn, 1) := by decide +kernel
theorem dX6_triedFits_0 : decode cX6_triedFits 0 = .ok (.aload_n 0, 1) := by decide +kernel
theorem dX6_triedFits_1 : decode cX6_triedFits 1 = .ok (.getfield 38, 3) := by decide +kernel
theorem dX6_triedFits_4 : decode cX6_triedFits 4 = .ok (.aload_n 0, 1) := by decide +kernel
theorem dX6_triedFits_5 : decode cX6_triedFits 5 = .ok (.getfield 28, 3) := by decide +kernel
theorem dX6_triedFits_8 : decode cX6_triedFits 8 = .ok (.invokevirtual 265, 3) := by decide +kernel
theorem dX6_triedFits_11 : decode cX6_triedFits 11 = .ok (.aload_n 0, 1) := by decide +kernel
theorem dX6_triedFits_12 : decode cX6_triedFits 12 = .ok (.getfield 44, 3) := by decide +kernel
theorem dX6_triedFits_15 : decode cX6_triedFits 15 = .ok (.aload_n 0, 1) := by decide +kernel
theorem dX6_triedFits_16 : decode cX6_triedFits 16 = .ok (.getfield 38, 3) := by decide +kernel
theorem dX6_triedFits_19 : decode cX6_triedFits 19 = .ok (.aload_n 0, 1) := by decide +kernel
theorem dX6_triedFits_20 : decode cX6_triedFits 20 = .ok (.getfield 28, 3) := by decide +kernel
theorem dX6_triedFits_23 : decode cX6_triedFits 23 = .ok (.getfield 120, 3) := by decide +kernel
theorem dX6_triedFits_26 : decode cX6_triedFits 26 = .ok (.invokevirtual 380, 3) := by decide +kernel
theorem dX6_triedFits_29 : decode cX6_triedFits 29 = .ok (.ireturn, 1) := by decide +kernel
theorem dX6_searchFill_0 : decode cX6_searchFill 0 = .ok (.aload_n 0, 1) := by decide +kernel
theorem dX6_searchFill_1 : decode cX6_searchFill 1 = .ok (.getfield 28, 3) := by decide +kernel
theorem dX6_searchFill_4 : decode cX6_searchFill 4 = .ok (.aload_n 0, 1) := by decide +kernel
theorem dX6_searchFill_5 : decode cX6_searchFill 5 = .ok (.getfield 24, 3) := by decide +kernel
theorem dX6_searchFill_8 : decode cX6_searchFill 8 = .ok (.invokevirtual 224, 3) := by decide +kernel
theorem dX6_searchFill_11 : decode cX6_searchFill 11 = .ok (.aload_n 0, 1) := by decide +kernel
theorem dX6_searchFill_12 : decode cX6_searchFill 12 = .ok (.getfield 51, 3) := by decide +kernel
theorem dX6_searchFill_15 : decode cX6_searchFill 15 = .ok (.invokevirtual 384, 3) := by decide +kernel
theorem dX6_searchFill_18 : decode cX6_searchFill 18 = .ok (.iconst 1, 1) := by decide +kernel
theorem dX6_searchFill_19 : decode cX6_searchFill 19 = .ok (.istore_n 1, 1) := by decide +kernel
theorem dX6_searchFill_20 : decode cX6_searchFill 20 = .ok (.iload_n 1, 1) := by decide +kernel
theorem dX6_searchFill_21 : decode cX6_searchFill 21 = .ok (.bipush 99, 2) := by decide +kernel
theorem dX6_searchFill_23 : decode cX6_searchFill 23 = .ok (.if_icmp .gt 30, 3) := by decide +kernel
theorem dX6_searchFill_26 : decode cX6_searchFill 26 = .ok (.aload_n 0, 1) := by decide +kernel
theorem dX6_searchFill_27 : decode cX6_searchFill 27 = .ok (.getfield 28, 3) := by decide +kernel
theorem dX6_searchFill_30 : decode cX6_searchFill 30 = .ok (.iload_n 1, 1) := by decide +kernel
theorem dX6_searchFill_31 : decode cX6_searchFill 31 = .ok (.putfield 129, 3) := by decide +kernel
theorem dX6_searchFill_34 : decode cX6_searchFill 34 = .ok (.aload_n 0, 1) := by decide +kernel
theorem dX6_searchFill_35 : decode cX6_searchFill 35 = .ok (.getfield 51, 3) := by decide +kernel
theorem dX6_searchFill_38 : decode cX6_searchFill 38 = .ok (.iload_n 1, 1) := by decide +kernel
theorem dX6_searchFill_39 : decode cX6_searchFill 39 = .ok (.iconst (-1), 1) := by decide +kernel
theorem dX6_searchFill_40 : decode cX6_searchFill 40 = .ok (.aload_n 0, 1) := by decide +kernel
theorem dX6_searchFill_41 : decode cX6_searchFill 41 = .ok (.invokevirtual 387, 3) := by decide +kernel
theorem dX6_searchFill_44 : decode cX6_searchFill 44 = .ok (.invokevirtual 390, 3) := by decide +kernel
theorem dX6_searchFill_47 : decode cX6_searchFill 47 = .ok (.iinc 1 1, 3) := by decide +kernel
theorem dX6_searchFill_50 : decode cX6_searchFill 50 = .ok (.goto (-30), 3) := by decide +kernel
theorem dX6_searchFill_53 : decode cX6_searchFill 53 = .ok (.return_, 1) := by decide +kernel
theorem dX6_searchSwap_0 : decode cX6_searchSwap 0 = .ok (.aload_n 0, 1) := by decide +kernel
theorem dX6_searchSwap_1 : decode cX6_searchSwap 1 = .ok (.getfield 28, 3) := by decide +kernel
theorem dX6_searchSwap_4 : decode cX6_searchSwap 4 = .ok (.aload_n 0, 1) := by decide +kernel
theorem dX6_searchSwap_5 : decode cX6_searchSwap 5 = .ok (.getfield 24, 3) := by decide +kernel
theorem dX6_searchSwap_8 : decode cX6_searchSwap 8 = .ok (.invokevirtual 224, 3) := by decide +kernel
theorem dX6_searchSwap_11 : decode cX6_searchSwap 11 = .ok (.aload_n 0, 1) := by decide +kernel
theorem dX6_searchSwap_12 : decode cX6_searchSwap 12 = .ok (.getfield 55, 3) := by decide +kernel
theorem dX6_searchSwap_15 : decode cX6_searchSwap 15 = .ok (.invokevirtual 384, 3) := by decide +kernel
theorem dX6_searchSwap_18 : decode cX6_searchSwap 18 = .ok (.iconst 0, 1) := by decide +kernel
theorem dX6_searchSwap_19 : decode cX6_searchSwap 19 = .ok (.istore_n 1, 1) := by decide +kernel
theorem dX6_searchSwap_20 : decode cX6_searchSwap 20 = .ok (.iload_n 1, 1) := by decide +kernel
theorem dX6_searchSwap_21 : decode cX6_searchSwap 21 = .ok (.aload_n 0, 1) := by decide +kernel
theorem dX6_searchSwap_22 : decode cX6_searchSwap 22 = .ok (.getfield 24, 3) := by decide +kernel
theorem dX6_searchSwap_25 : decode cX6_searchSwap 25 = .ok (.getfield 193, 3) := by decide +kernel
theorem dX6_searchSwap_28 : decode cX6_searchSwap 28 = .ok (.if_icmp .ge 61, 3) := by decide +kernel
theorem dX6_searchSwap_31 : decode cX6_searchSwap 31 = .ok (.iload_n 1, 1) := by decide +kernel
theorem dX6_searchSwap_32 : decode cX6_searchSwap 32 = .ok (.iconst 1, 1) := by decide +kernel
theorem dX6_searchSwap_33 : decode cX6_searchSwap 33 = .ok (.iadd, 1) := by decide +kernel
theorem dX6_searchSwap_34 : decode cX6_searchSwap 34 = .ok (.istore_n 2, 1) := by decide +kernel
theorem dX6_searchSwap_35 : decode cX6_searchSwap 35 = .ok (.iload_n 2, 1) := by decide +kernel
theorem dX6_searchSwap_36 : decode cX6_searchSwap 36 = .ok (.aload_n 0, 1) := by decide +kernel
theorem dX6_searchSwap_37 : decode cX6_searchSwap 37 = .ok (.getfield 24, 3) := by decide +kernel
theorem dX6_searchSwap_40 : decode cX6_searchSwap 40 = .ok (.getfield 193, 3) := by decide +kernel
theorem dX6_searchSwap_43 : decode cX6_searchSwap 43 = .ok (.if_icmp .ge 40, 3) := by decide +kernel
theorem dX6_searchSwap_46 : decode cX6_searchSwap 46 = .ok (.aload_n 0, 1) := by decide +kernel
theorem dX6_searchSwap_47 : decode cX6_searchSwap 47 = .ok (.getfield 28, 3) := by decide +kernel
theorem dX6_searchSwap_50 : decode cX6_searchSwap 50 = .ok (.iload_n 1, 1) := by decide +kernel
theorem dX6_searchSwap_51 : decode cX6_searchSwap 51 = .ok (.iload_n 2, 1) := by decide +kernel
theorem dX6_searchSwap_52 : decode cX6_searchSwap 52 = .ok (.invokevirtual 394, 3) := by decide +kernel
theorem dX6_searchSwap_55 : decode cX6_searchSwap 55 = .ok (.aload_n 0, 1) := by decide +kernel
theorem dX6_searchSwap_56 : decode cX6_searchSwap 56 = .ok (.getfield 55, 3) := by decide +kernel
theorem dX6_searchSwap_59 : decode cX6_searchSwap 59 = .ok (.iload_n 1, 1) := by decide +kernel
theorem dX6_searchSwap_60 : decode cX6_searchSwap 60 = .ok (.iload_n 2, 1) := by decide +kernel
theorem dX6_searchSwap_61 : decode cX6_searchSwap 61 = .ok (.aload_n 0, 1) := by decide +kernel
theorem dX6_searchSwap_62 : decode cX6_searchSwap 62 = .ok (.invokevirtual 387, 3) := by decide +kernel
theorem dX6_searchSwap_65 : decode cX6_searchSwap 65 = .ok (.invokevirtual 390, 3) := by decide +kernel
theorem dX6_searchSwap_68 : decode cX6_searchSwap 68 = .ok (.aload_n 0, 1) := by decide +kernel
theorem dX6_searchSwap_69 : decode cX6_searchSwap 69 = .ok (.getfield 28, 3) := by decide +kernel
theorem dX6_searchSwap_72 : decode cX6_searchSwap 72 = .ok (.iload_n 1, 1) := by decide +kernel
theorem dX6_searchSwap_73 : decode cX6_searchSwap 73 = .ok (.iload_n 2, 1) := by decide +kernel
theorem dX6_searchSwap_74 : decode cX6_searchSwap 74 = .ok (.invokevirtual 394, 3) := by decide +kernel
theorem dX6_searchSwap_77 : decode cX6_searchSwap 77 = .ok (.iinc 2 1, 3) := by decide +kernel
theorem dX6_searchSwap_80 : decode cX6_searchSwap 80 = .ok (.goto (-45), 3) := by decide +kernel
theorem dX6_searchSwap_83 : decode cX6_searchSwap 83 = .ok (.iinc 1 1, 3) := by decide +kernel
theorem dX6_searchSwap_86 : decode cX6_searchSwap 86 = .ok (.goto (-66), 3) := by decide +kernel
theorem dX6_searchSwap_89 : decode cX6_searchSwap 89 = .ok (.return_, 1) := by decide +kernel
theorem dX6_searchHold_0 : decode cX6_searchHold 0 = .ok (.aload_n 0, 1) := by decide +kernel
theorem dX6_searchHold_1 : decode cX6_searchHold 1 = .ok (.getfield 28, 3) := by decide +kernel
theorem dX6_searchHold_4 : decode cX6_searchHold 4 = .ok (.aload_n 0, 1) := by decide +kernel
theorem dX6_searchHold_5 : decode cX6_searchHold 5 = .ok (.getfield 24, 3) := by decide +kernel
theorem dX6_searchHold_8 : decode cX6_searchHold 8 = .ok (.invokevirtual 224, 3) := by decide +kernel
theorem dX6_searchHold_11 : decode cX6_searchHold 11 = .ok (.aload_n 0, 1) := by decide +kernel
theorem dX6_searchHold_12 : decode cX6_searchHold 12 = .ok (.getfield 58, 3) := by decide +kernel
theorem dX6_searchHold_15 : decode cX6_searchHold 15 = .ok (.invokevirtual 384, 3) := by decide +kernel
theorem dX6_searchHold_18 : decode cX6_searchHold 18 = .ok (.iconst 0, 1) := by decide +kernel
theorem dX6_searchHold_19 : decode cX6_searchHold 19 = .ok (.istore_n 1, 1) := by decide +kernel
theorem dX6_searchHold_20 : decode cX6_searchHold 20 = .ok (.iload_n 1, 1) := by decide +kernel
theorem dX6_searchHold_21 : decode cX6_searchHold 21 = .ok (.bipush 24, 2) := by decide +kernel
theorem dX6_searchHold_23 : decode cX6_searchHold 23 = .ok (.if_icmp .ge 30, 3) := by decide +kernel
theorem dX6_searchHold_26 : decode cX6_searchHold 26 = .ok (.aload_n 0, 1) := by decide +kernel
theorem dX6_searchHold_27 : decode cX6_searchHold 27 = .ok (.getfield 28, 3) := by decide +kernel
theorem dX6_searchHold_30 : decode cX6_searchHold 30 = .ok (.iload_n 1, 1) := by decide +kernel
theorem dX6_searchHold_31 : decode cX6_searchHold 31 = .ok (.putfield 397, 3) := by decide +kernel
theorem dX6_searchHold_34 : decode cX6_searchHold 34 = .ok (.aload_n 0, 1) := by decide +kernel
theorem dX6_searchHold_35 : decode cX6_searchHold 35 = .ok (.getfield 58, 3) := by decide +kernel
theorem dX6_searchHold_38 : decode cX6_searchHold 38 = .ok (.iload_n 1, 1) := by decide +kernel
theorem dX6_searchHold_39 : decode cX6_searchHold 39 = .ok (.iconst (-1), 1) := by decide +kernel
theorem dX6_searchHold_40 : decode cX6_searchHold 40 = .ok (.aload_n 0, 1) := by decide +kernel
theorem dX6_searchHold_41 : decode cX6_searchHold 41 = .ok (.invokevirtual 387, 3) := by decide +kernel
theorem dX6_searchHold_44 : decode cX6_searchHold 44 = .ok (.invokevirtual 390, 3) := by decide +kernel
theorem dX6_searchHold_47 : decode cX6_searchHold 47 = .ok (.iinc 1 1, 3) := by decide +kernel
theorem dX6_searchHold_50 : decode cX6_searchHold 50 = .ok (.goto (-30), 3) := by decide +kernel
theorem dX6_searchHold_53 : decode cX6_searchHold 53 = .ok (.return_, 1) := by decide +kernel
theorem dX6_searchSpare_0 : decode cX6_searchSpare 0 = .ok (.aload_n 0, 1) := by decide +kernel
theorem dX6_searchSpare_1 : decode cX6_searchSpare 1 = .ok (.getfield 28, 3) := by decide +kernel
theorem dX6_searchSpare_4 : decode cX6_searchSpare 4 = .ok (.aload_n 0, 1) := by decide +kernel
theorem dX6_searchSpare_5 : decode cX6_searchSpare 5 = .ok (.getfield 24, 3) := by decide +kernel
theorem dX6_searchSpare_8 : decode cX6_searchSpare 8 = .ok (.invokevirtual 224, 3) := by decide +kernel
theorem dX6_searchSpare_11 : decode cX6_searchSpare 11 = .ok (.aload_n 0, 1) := by decide +kernel
theorem dX6_searchSpare_12 : decode cX6_searchSpare 12 = .ok (.getfield 61, 3) := by decide +kernel
theorem dX6_searchSpare_15 : decode cX6_searchSpare 15 = .ok (.invokevirtual 384, 3) := by decide +kernel
theorem dX6_searchSpare_18 : decode cX6_searchSpare 18 = .ok (.aload_n 0, 1) := by decide +kernel
theorem dX6_searchSpare_19 : decode cX6_searchSpare 19 = .ok (.iconst 0, 1) := by decide +kernel
theorem dX6_searchSpare_20 : decode cX6_searchSpare 20 = .ok (.invokevirtual 400, 3) := by decide +kernel
theorem dX6_searchSpare_23 : decode cX6_searchSpare 23 = .ok (.ifCond .eq 14, 3) := by decide +kernel
theorem dX6_searchSpare_26 : decode cX6_searchSpare 26 = .ok (.aload_n 0, 1) := by decide +kernel
theorem dX6_searchSpare_27 : decode cX6_searchSpare 27 = .ok (.getfield 61, 3) := by decide +kernel
theorem dX6_searchSpare_30 : decode cX6_searchSpare 30 = .ok (.iconst (-1), 1) := by decide +kernel
theorem dX6_searchSpare_31 : decode cX6_searchSpare 31 = .ok (.iconst (-1), 1) := by decide +kernel
theorem dX6_searchSpare_32 : decode cX6_searchSpare 32 = .ok (.iconst 0, 1) := by decide +kernel
theorem dX6_searchSpare_33 : decode cX6_searchSpare 33 = .ok (.invokevirtual 390, 3) := by decide +kernel
theorem dX6_searchSpare_36 : decode cX6_searchSpare 36 = .ok (.return_, 1) := by decide +kernel
theorem dX6_searchSpare_37 : decode cX6_searchSpare 37 = .ok (.iconst 0, 1) := by decide +kernel
theorem dX6_searchSpare_38 : decode cX6_searchSpare 38 = .ok (.istore_n 1, 1) := by decide +kernel
theorem dX6_searchSpare_39 : decode cX6_searchSpare 39 = .ok (.iload_n 1, 1) := by decide +kernel
theorem dX6_searchSpare_40 : decode cX6_searchSpare 40 = .ok (.aload_n 0, 1) := by decide +kernel
theorem dX6_searchSpare_41 : decode cX6_searchSpare 41 = .ok (.getfield 24, 3) := by decide +kernel
theorem dX6_searchSpare_44 : decode cX6_searchSpare 44 = .ok (.getfield 142, 3) := by decide +kernel
theorem dX6_searchSpare_47 : decode cX6_searchSpare 47 = .ok (.if_icmp .ge 30, 3) := by decide +kernel
theorem dX6_searchSpare_50 : decode cX6_searchSpare 50 = .ok (.aload_n 0, 1) := by decide +kernel
theorem dX6_searchSpare_51 : decode cX6_searchSpare 51 = .ok (.iconst 1, 1) := by decide +kernel
theorem dX6_searchSpare_52 : decode cX6_searchSpare 52 = .ok (.iload_n 1, 1) := by decide +kernel
theorem dX6_searchSpare_53 : decode cX6_searchSpare 53 = .ok (.ishl, 1) := by decide +kernel
theorem dX6_searchSpare_54 : decode cX6_searchSpare 54 = .ok (.invokevirtual 400, 3) := by decide +kernel
theorem dX6_searchSpare_57 : decode cX6_searchSpare 57 = .ok (.ifCond .eq 14, 3) := by decide +kernel
theorem dX6_searchSpare_60 : decode cX6_searchSpare 60 = .ok (.aload_n 0, 1) := by decide +kernel
theorem dX6_searchSpare_61 : decode cX6_searchSpare 61 = .ok (.getfield 61, 3) := by decide +kernel
theorem dX6_searchSpare_64 : decode cX6_searchSpare 64 = .ok (.iload_n 1, 1) := by decide +kernel
theorem dX6_searchSpare_65 : decode cX6_searchSpare 65 = .ok (.iconst (-1), 1) := by decide +kernel
theorem dX6_searchSpare_66 : decode cX6_searchSpare 66 = .ok (.iconst 1, 1) := by decide +kernel
theorem dX6_searchSpare_67 : decode cX6_searchSpare 67 = .ok (.invokevirtual 390, 3) := by decide +kernel
theorem dX6_searchSpare_70 : decode cX6_searchSpare 70 = .ok (.return_, 1) := by decide +kernel
theorem dX6_searchSpare_71 : decode cX6_searchSpare 71 = .ok (.iinc 1 1, 3) := by decide +kernel
theorem dX6_searchSpare_74 : decode cX6_searchSpare 74 = .ok (.goto (-35), 3) := by decide +kernel
theorem dX6_searchSpare_77 : decode cX6_searchSpare 77 = .ok (.iconst 0, 1) := by decide +kernel
theorem dX6_searchSpare_78 : decode cX6_searchSpare 78 = .ok (.istore_n 1, 1) := by decide +kernel
theorem dX6_searchSpare_79 : decode cX6_searchSpare 79 = .ok (.iload_n 1, 1) := by decide +kernel
theorem dX6_searchSpare_80 : decode cX6_searchSpare 80 = .ok (.aload_n 0, 1) := by decide +kernel
theorem dX6_searchSpare_81 : decode cX6_searchSpare 81 = .ok (.getfield 24, 3) := by decide +kernel
theorem dX6_searchSpare_84 : decode cX6_searchSpare 84 = .ok (.getfield 142, 3) := by decide +kernel
theorem dX6_searchSpare_87 : decode cX6_searchSpare 87 = .ok (.if_icmp .ge 55, 3) := by decide +kernel
theorem dX6_searchSpare_90 : decode cX6_searchSpare 90 = .ok (.iload_n 1, 1) := by decide +kernel
theorem dX6_searchSpare_91 : decode cX6_searchSpare 91 = .ok (.iconst 1, 1) := by decide +kernel
theorem dX6_searchSpare_92 : decode cX6_searchSpare 92 = .ok (.iadd, 1) := by decide +kernel
theorem dX6_searchSpare_93 : decode cX6_searchSpare 93 = .ok (.istore_n 2, 1) := by decide +kernel
theorem dX6_searchSpare_94 : decode cX6_searchSpare 94 = .ok (.iload_n 2, 1) := by decide +kernel
theorem dX6_searchSpare_95 : decode cX6_searchSpare 95 = .ok (.aload_n 0, 1) := by decide +kernel
theorem dX6_searchSpare_96 : decode cX6_searchSpare 96 = .ok (.getfield 24, 3) := by decide +kernel
theorem dX6_searchSpare_99 : decode cX6_searchSpare 99 = .ok (.getfield 142, 3) := by decide +kernel
theorem dX6_searchSpare_102 : decode cX6_searchSpare 102 = .ok (.if_icmp .ge 34, 3) := by decide +kernel
theorem dX6_searchSpare_105 : decode cX6_searchSpare 105 = .ok (.aload_n 0, 1) := by decide +kernel
theorem dX6_searchSpare_106 : decode cX6_searchSpare 106 = .ok (.iconst 1, 1) := by decide +kernel
theorem dX6_searchSpare_107 : decode cX6_searchSpare 107 = .ok (.iload_n 1, 1) := by decide +kernel
theorem dX6_searchSpare_108 : decode cX6_searchSpare 108 = .ok (.ishl, 1) := by decide +kernel
theorem dX6_searchSpare_109 : decode cX6_searchSpare 109 = .ok (.iconst 1, 1) := by decide +kernel
theorem dX6_searchSpare_110 : decode cX6_searchSpare 110 = .ok (.iload_n 2, 1) := by decide +kernel
theorem dX6_searchSpare_111 : decode cX6_searchSpare 111 = .ok (.ishl, 1) := by decide +kernel
theorem dX6_searchSpare_112 : decode cX6_searchSpare 112 = .ok (.ior, 1) := by decide +kernel
theorem dX6_searchSpare_113 : decode cX6_searchSpare 113 = .ok (.invokevirtual 400, 3) := by decide +kernel
theorem dX6_searchSpare_116 : decode cX6_searchSpare 116 = .ok (.ifCond .eq 14, 3) := by decide +kernel
theorem dX6_searchSpare_119 : decode cX6_searchSpare 119 = .ok (.aload_n 0, 1) := by decide +kernel
theorem dX6_searchSpare_120 : decode cX6_searchSpare 120 = .ok (.getfield 61, 3) := by decide +kernel
theorem dX6_searchSpare_123 : decode cX6_searchSpare 123 = .ok (.iload_n 1, 1) := by decide +kernel
theorem dX6_searchSpare_124 : decode cX6_searchSpare 124 = .ok (.iload_n 2, 1) := by decide +kernel
theorem dX6_searchSpare_125 : decode cX6_searchSpare 125 = .ok (.iconst 2, 1) := by decide +kernel
theorem dX6_searchSpare_126 : decode cX6_searchSpare 126 = .ok (.invokevirtual 390, 3) := by decide +kernel
theorem dX6_searchSpare_129 : decode cX6_searchSpare 129 = .ok (.return_, 1) := by decide +kernel
theorem dX6_searchSpare_130 : decode cX6_searchSpare 130 = .ok (.iinc 2 1, 3) := by decide +kernel
theorem dX6_searchSpare_133 : decode cX6_searchSpare 133 = .ok (.goto (-39), 3) := by decide +kernel
theorem dX6_searchSpare_136 : decode cX6_searchSpare 136 = .ok (.iinc 1 1, 3) := by decide +kernel
theorem dX6_searchSpare_139 : decode cX6_searchSpare 139 = .ok (.goto (-60), 3) := by decide +kernel
theorem dX6_searchSpare_142 : decode cX6_searchSpare 142 = .ok (.return_, 1) := by decide +kernel
theorem dX6_noneMissedWithout_0 : decode cX6_noneMissedWithout 0 = .ok (.aload_n 0, 1) := by decide +kernel
theorem dX6_noneMissedWithout_1 : decode cX6_noneMissedWithout 1 = .ok (.getfield 28, 3) := by decide +kernel
theorem dX6_noneMissedWithout_4 : decode cX6_noneMissedWithout 4 = .ok (.iload_n 1, 1) := by decide +kernel
theorem dX6_noneMissedWithout_5 : decode cX6_noneMissedWithout 5 = .ok (.putfield 228, 3) := by decide +kernel
theorem dX6_noneMissedWithout_8 : decode cX6_noneMissedWithout 8 = .ok (.aload_n 0, 1) := by decide +kernel
theorem dX6_noneMissedWithout_9 : decode cX6_noneMissedWithout 9 = .ok (.getfield 38, 3) := by decide +kernel
theorem dX6_noneMissedWithout_12 : decode cX6_noneMissedWithout 12 = .ok (.aload_n 0, 1) := by decide +kernel
theorem dX6_noneMissedWithout_13 : decode cX6_noneMissedWithout 13 = .ok (.getfield 28, 3) := by decide +kernel
theorem dX6_noneMissedWithout_16 : decode cX6_noneMissedWithout 16 = .ok (.invokevirtual 265, 3) := by decide +kernel
theorem dX6_noneMissedWithout_19 : decode cX6_noneMissedWithout 19 = .ok (.aload_n 0, 1) := by decide +kernel
theorem dX6_noneMissedWithout_20 : decode cX6_noneMissedWithout 20 = .ok (.getfield 38, 3) := by decide +kernel
theorem dX6_noneMissedWithout_23 : decode cX6_noneMissedWithout 23 = .ok (.getfield 403, 3) := by decide +kernel
theorem dX6_noneMissedWithout_26 : decode cX6_noneMissedWithout 26 = .ok (.ifCond .ne 7, 3) := by decide +kernel
theorem dX6_noneMissedWithout_29 : decode cX6_noneMissedWithout 29 = .ok (.iconst 1, 1) := by decide +kernel
theorem dX6_noneMissedWithout_30 : decode cX6_noneMissedWithout 30 = .ok (.goto 4, 3) := by decide +kernel
theorem dX6_noneMissedWithout_33 : decode cX6_noneMissedWithout 33 = .ok (.iconst 0, 1) := by decide +kernel
theorem dX6_noneMissedWithout_34 : decode cX6_noneMissedWithout 34 = .ok (.ireturn, 1) := by decide +kernel
theorem dX6_learnSubsets_0 : decode cX6_learnSubsets 0 = .ok (.aload_n 0, 1) := by decide +kernel
theorem dX6_learnSubsets_1 : decode cX6_learnSubsets 1 = .ok (.getfield 28, 3) := by decide +kernel
theorem dX6_learnSubsets_4 : decode cX6_learnSubsets 4 = .ok (.aload_n 0, 1) := by decide +kernel
theorem dX6_learnSubsets_5 : decode cX6_learnSubsets 5 = .ok (.getfield 24, 3) := by decide +kernel
theorem dX6_learnSubsets_8 : decode cX6_learnSubsets 8 = .ok (.invokevirtual 224, 3) := by decide +kernel
theorem dX6_learnSubsets_11 : decode cX6_learnSubsets 11 = .ok (.iconst 1, 1) := by decide +kernel
theorem dX6_learnSubsets_12 : decode cX6_learnSubsets 12 = .ok (.aload_n 0, 1) := by decide +kernel
theorem dX6_learnSubsets_13 : decode cX6_learnSubsets 13 = .ok (.getfield 24, 3) := by decide +kernel
theorem dX6_learnSubsets_16 : decode cX6_learnSubsets 16 = .ok (.getfield 142, 3) := by decide +kernel
theorem dX6_learnSubsets_19 : decode cX6_learnSubsets 19 = .ok (.ishl, 1) := by decide +kernel
theorem dX6_learnSubsets_20 : decode cX6_learnSubsets 20 = .ok (.istore_n 1, 1) := by decide +kernel
theorem dX6_learnSubsets_21 : decode cX6_learnSubsets 21 = .ok (.iconst 0, 1) := by decide +kernel
theorem dX6_learnSubsets_22 : decode cX6_learnSubsets 22 = .ok (.istore_n 2, 1) := by decide +kernel
theorem dX6_learnSubsets_23 : decode cX6_learnSubsets 23 = .ok (.iload_n 2, 1) := by decide +kernel
theorem dX6_learnSubsets_24 : decode cX6_learnSubsets 24 = .ok (.iload_n 1, 1) := by decide +kernel
theorem dX6_learnSubsets_25 : decode cX6_learnSubsets 25 = .ok (.if_icmp .ge 41, 3) := by decide +kernel
theorem dX6_learnSubsets_28 : decode cX6_learnSubsets 28 = .ok (.aload_n 0, 1) := by decide +kernel
theorem dX6_learnSubsets_29 : decode cX6_learnSubsets 29 = .ok (.getfield 28, 3) := by decide +kernel
theorem dX6_learnSubsets_32 : decode cX6_learnSubsets 32 = .ok (.iload_n 2, 1) := by decide +kernel
theorem dX6_learnSubsets_33 : decode cX6_learnSubsets 33 = .ok (.putfield 228, 3) := by decide +kernel
theorem dX6_learnSubsets_36 : decode cX6_learnSubsets 36 = .ok (.aload_n 0, 1) := by decide +kernel
theorem dX6_learnSubsets_37 : decode cX6_learnSubsets 37 = .ok (.getfield 38, 3) := by decide +kernel
theorem dX6_learnSubsets_40 : decode cX6_learnSubsets 40 = .ok (.aload_n 0, 1) := by decide +kernel
theorem dX6_learnSubsets_41 : decode cX6_learnSubsets 41 = .ok (.getfield 28, 3) := by decide +kernel
theorem dX6_learnSubsets_44 : decode cX6_learnSubsets 44 = .ok (.invokevirtual 265, 3) := by decide +kernel
theorem dX6_learnSubsets_47 : decode cX6_learnSubsets 47 = .ok (.aload_n 0, 1) := by decide +kernel
theorem dX6_learnSubsets_48 : decode cX6_learnSubsets 48 = .ok (.getfield 64, 3) := by decide +kernel
theorem dX6_learnSubsets_51 : decode cX6_learnSubsets 51 = .ok (.iload_n 2, 1) := by decide +kernel
theorem dX6_learnSubsets_52 : decode cX6_learnSubsets 52 = .ok (.aload_n 0, 1) := by decide +kernel
theorem dX6_learnSubsets_53 : decode cX6_learnSubsets 53 = .ok (.getfield 38, 3) := by decide +kernel
theorem dX6_learnSubsets_56 : decode cX6_learnSubsets 56 = .ok (.getfield 406, 3) := by decide +kernel
theorem dX6_learnSubsets_59 : decode cX6_learnSubsets 59 = .ok (.iastore, 1) := by decide +kernel
theorem dX6_learnSubsets_60 : decode cX6_learnSubsets 60 = .ok (.iinc 2 1, 3) := by decide +kernel
theorem dX6_learnSubsets_63 : decode cX6_learnSubsets 63 = .ok (.goto (-40), 3) := by decide +kernel
theorem dX6_learnSubsets_66 : decode cX6_learnSubsets 66 = .ok (.aload_n 0, 1) := by decide +kernel
theorem dX6_learnSubsets_67 : decode cX6_learnSubsets 67 = .ok (.iconst 1, 1) := by decide +kernel
theorem dX6_learnSubsets_68 : decode cX6_learnSubsets 68 = .ok (.putfield 81, 3) := by decide +kernel
theorem dX6_learnSubsets_71 : decode cX6_learnSubsets 71 = .ok (.return_, 1) := by decide +kernel
theorem dX6_weight_0 : decode cX6_weight 0 = .ok (.lconst 1, 1) := by decide +kernel
theorem dX6_weight_1 : decode cX6_weight 1 = .ok (.lstore_n 3, 1) := by decide +kernel
theorem dX6_weight_2 : decode cX6_weight 2 = .ok (.iconst 0, 1) := by decide +kernel
theorem dX6_weight_3 : decode cX6_weight 3 = .ok (.istore 5, 2) := by decide +kernel
theorem dX6_weight_5 : decode cX6_weight 5 = .ok (.iload 5, 2) := by decide +kernel
theorem dX6_weight_7 : decode cX6_weight 7 = .ok (.aload_n 0, 1) := by decide +kernel
theorem dX6_weight_8 : decode cX6_weight 8 = .ok (.getfield 24, 3) := by decide +kernel
theorem dX6_weight_11 : decode cX6_weight 11 = .ok (.getfield 142, 3) := by decide +kernel
theorem dX6_weight_14 : decode cX6_weight 14 = .ok (.if_icmp .ge 28, 3) := by decide +kernel
theorem dX6_weight_17 : decode cX6_weight 17 = .ok (.lload_n 3, 1) := by decide +kernel
theorem dX6_weight_18 : decode cX6_weight 18 = .ok (.iload 5, 2) := by decide +kernel
theorem dX6_weight_20 : decode cX6_weight 20 = .ok (.iload_n 2, 1) := by decide +kernel
theorem dX6_weight_21 : decode cX6_weight 21 = .ok (.if_icmp .ge 11, 3) := by decide +kernel
theorem dX6_weight_24 : decode cX6_weight 24 = .ok (.bipush 16, 2) := by decide +kernel
theorem dX6_weight_26 : decode cX6_weight 26 = .ok (.iload_n 1, 1) := by decide +kernel
theorem dX6_weight_27 : decode cX6_weight 27 = .ok (.isub, 1) := by decide +kernel
theorem dX6_weight_28 : decode cX6_weight 28 = .ok (.i2l, 1) := by decide +kernel
theorem dX6_weight_29 : decode cX6_weight 29 = .ok (.goto 5, 3) := by decide +kernel
theorem dX6_weight_32 : decode cX6_weight 32 = .ok (.iload_n 1, 1) := by decide +kernel
theorem dX6_weight_33 : decode cX6_weight 33 = .ok (.i2l, 1) := by decide +kernel
theorem dX6_weight_34 : decode cX6_weight 34 = .ok (.lmul, 1) := by decide +kernel
theorem dX6_weight_35 : decode cX6_weight 35 = .ok (.lstore_n 3, 1) := by decide +kernel
theorem dX6_weight_36 : decode cX6_weight 36 = .ok (.iinc 5 1, 3) := by decide +kernel
theorem dX6_weight_39 : decode cX6_weight 39 = .ok (.goto (-34), 3) := by decide +kernel
theorem dX6_weight_42 : decode cX6_weight 42 = .ok (.lload_n 3, 1) := by decide +kernel
theorem dX6_weight_43 : decode cX6_weight 43 = .ok (.lreturn, 1) := by decide +kernel
theorem dX6_countAlike_0 : decode cX6_countAlike 0 = .ok (.aload_n 0, 1) := by decide +kernel
theorem dX6_countAlike_1 : decode cX6_countAlike 1 = .ok (.getfield 68, 3) := by decide +kernel
theorem dX6_countAlike_4 : decode cX6_countAlike 4 = .ok (.iconst 0, 1) := by decide +kernel
theorem dX6_countAlike_5 : decode cX6_countAlike 5 = .ok (.invokestatic 409, 3) := by decide +kernel
theorem dX6_countAlike_8 : decode cX6_countAlike 8 = .ok (.aload_n 0, 1) := by decide +kernel
theorem dX6_countAlike_9 : decode cX6_countAlike 9 = .ok (.getfield 28, 3) := by decide +kernel
theorem dX6_countAlike_12 : decode cX6_countAlike 12 = .ok (.aload_n 0, 1) := by decide +kernel
theorem dX6_countAlike_13 : decode cX6_countAlike 13 = .ok (.getfield 24, 3) := by decide +kernel
theorem dX6_countAlike_16 : decode cX6_countAlike 16 = .ok (.invokevirtual 224, 3) := by decide +kernel
theorem dX6_countAlike_19 : decode cX6_countAlike 19 = .ok (.iconst 0, 1) := by decide +kernel
theorem dX6_countAlike_20 : decode cX6_countAlike 20 = .ok (.istore_n 2, 1) := by decide +kernel
theorem dX6_countAlike_21 : decode cX6_countAlike 21 = .ok (.iload_n 2, 1) := by decide +kernel
theorem dX6_countAlike_22 : decode cX6_countAlike 22 = .ok (.iconst 4, 1) := by decide +kernel
theorem dX6_countAlike_23 : decode cX6_countAlike 23 = .ok (.if_icmp .ge 67, 3) := by decide +kernel
theorem dX6_countAlike_26 : decode cX6_countAlike 26 = .ok (.aload_n 0, 1) := by decide +kernel
theorem dX6_countAlike_27 : decode cX6_countAlike 27 = .ok (.getfield 28, 3) := by decide +kernel
theorem dX6_countAlike_30 : decode cX6_countAlike 30 = .ok (.getfield 117, 3) := by decide +kernel
theorem dX6_countAlike_33 : decode cX6_countAlike 33 = .ok (.iload_n 1, 1) := by decide +kernel
theorem dX6_countAlike_34 : decode cX6_countAlike 34 = .ok (.iload_n 2, 1) := by decide +kernel
theorem dX6_countAlike_35 : decode cX6_countAlike 35 = .ok (.iastore, 1) := by decide +kernel
theorem dX6_countAlike_36 : decode cX6_countAlike 36 = .ok (.aload_n 0, 1) := by decide +kernel
theorem dX6_countAlike_37 : decode cX6_countAlike 37 = .ok (.invokevirtual 231, 3) := by decide +kernel
theorem dX6_countAlike_40 : decode cX6_countAlike 40 = .ok (.ifCond .eq 44, 3) := by decide +kernel
theorem dX6_countAlike_43 : decode cX6_countAlike 43 = .ok (.iconst 0, 1) := by decide +kernel
theorem dX6_countAlike_44 : decode cX6_countAlike 44 = .ok (.istore_n 3, 1) := by decide +kernel
theorem dX6_countAlike_45 : decode cX6_countAlike 45 = .ok (.iload_n 3, 1) := by decide +kernel
theorem dX6_countAlike_46 : decode cX6_countAlike 46 = .ok (.aload_n 0, 1) := by decide +kernel
theorem dX6_countAlike_47 : decode cX6_countAlike 47 = .ok (.getfield 28, 3) := by decide +kernel
theorem dX6_countAlike_50 : decode cX6_countAlike 50 = .ok (.getfield 120, 3) := by decide +kernel
theorem dX6_countAlike_53 : decode cX6_countAlike 53 = .ok (.if_icmp .ge 31, 3) := by decide +kernel
theorem dX6_countAlike_56 : decode cX6_countAlike 56 = .ok (.aload_n 0, 1) := by decide +kernel
theorem dX6_countAlike_57 : decode cX6_countAlike 57 = .ok (.getfield 68, 3) := by decide +kernel
theorem dX6_countAlike_60 : decode cX6_countAlike 60 = .ok (.iload_n 3, 1) := by decide +kernel
theorem dX6_countAlike_61 : decode cX6_countAlike 61 = .ok (.iconst 3, 1) := by decide +kernel
theorem dX6_countAlike_62 : decode cX6_countAlike 62 = .ok (.imul, 1) := by decide +kernel
theorem dX6_countAlike_63 : decode cX6_countAlike 63 = .ok (.aload_n 0, 1) := by decide +kernel
theorem dX6_countAlike_64 : decode cX6_countAlike 64 = .ok (.getfield 38, 3) := by decide +kernel
theorem dX6_countAlike_67 : decode cX6_countAlike 67 = .ok (.getfield 172, 3) := by decide +kernel
theorem dX6_countAlike_70 : decode cX6_countAlike 70 = .ok (.iload_n 3, 1) := by decide +kernel
theorem dX6_countAlike_71 : decode cX6_countAlike 71 = .ok (.iaload, 1) := by decide +kernel
theorem dX6_countAlike_72 : decode cX6_countAlike 72 = .ok (.iadd, 1) := by decide +kernel
theorem dX6_countAlike_73 : decode cX6_countAlike 73 = .ok (.dup2, 1) := by decide +kernel
theorem dX6_countAlike_74 : decode cX6_countAlike 74 = .ok (.iaload, 1) := by decide +kernel
theorem dX6_countAlike_75 : decode cX6_countAlike 75 = .ok (.iconst 1, 1) := by decide +kernel
theorem dX6_countAlike_76 : decode cX6_countAlike 76 = .ok (.iadd, 1) := by decide +kernel
theorem dX6_countAlike_77 : decode cX6_countAlike 77 = .ok (.iastore, 1) := by decide +kernel
theorem dX6_countAlike_78 : decode cX6_countAlike 78 = .ok (.iinc 3 1, 3) := by decide +kernel
theorem dX6_countAlike_81 : decode cX6_countAlike 81 = .ok (.goto (-36), 3) := by decide +kernel
theorem dX6_countAlike_84 : decode cX6_countAlike 84 = .ok (.iinc 2 1, 3) := by decide +kernel
theorem dX6_countAlike_87 : decode cX6_countAlike 87 = .ok (.goto (-66), 3) := by decide +kernel
theorem dX6_countAlike_90 : decode cX6_countAlike 90 = .ok (.return_, 1) := by decide +kernel
theorem dX6_mostAlike_0 : decode cX6_mostAlike 0 = .ok (.iconst 0, 1) := by decide +kernel
theorem dX6_mostAlike_1 : decode cX6_mostAlike 1 = .ok (.istore_n 2, 1) := by decide +kernel
theorem dX6_mostAlike_2 : decode cX6_mostAlike 2 = .ok (.iconst 0, 1) := by decide +kernel
theorem dX6_mostAlike_3 : decode cX6_mostAlike 3 = .ok (.istore_n 3, 1) := by decide +kernel
theorem dX6_mostAlike_4 : decode cX6_mostAlike 4 = .ok (.iload_n 3, 1) := by decide +kernel
theorem dX6_mostAlike_5 : decode cX6_mostAlike 5 = .ok (.iconst 3, 1) := by decide +kernel
theorem dX6_mostAlike_6 : decode cX6_mostAlike 6 = .ok (.if_icmp .ge 24, 3) := by decide +kernel
theorem dX6_mostAlike_9 : decode cX6_mostAlike 9 = .ok (.iload_n 2, 1) := by decide +kernel
theorem dX6_mostAlike_10 : decode cX6_mostAlike 10 = .ok (.aload_n 0, 1) := by decide +kernel
theorem dX6_mostAlike_11 : decode cX6_mostAlike 11 = .ok (.getfield 68, 3) := by decide +kernel
theorem dX6_mostAlike_14 : decode cX6_mostAlike 14 = .ok (.iload_n 1, 1) := by decide +kernel
theorem dX6_mostAlike_15 : decode cX6_mostAlike 15 = .ok (.iconst 3, 1) := by decide +kernel
theorem dX6_mostAlike_16 : decode cX6_mostAlike 16 = .ok (.imul, 1) := by decide +kernel
theorem dX6_mostAlike_17 : decode cX6_mostAlike 17 = .ok (.iload_n 3, 1) := by decide +kernel
theorem dX6_mostAlike_18 : decode cX6_mostAlike 18 = .ok (.iadd, 1) := by decide +kernel
theorem dX6_mostAlike_19 : decode cX6_mostAlike 19 = .ok (.iaload, 1) := by decide +kernel
theorem dX6_mostAlike_20 : decode cX6_mostAlike 20 = .ok (.invokestatic 414, 3) := by decide +kernel
theorem dX6_mostAlike_23 : decode cX6_mostAlike 23 = .ok (.istore_n 2, 1) := by decide +kernel
theorem dX6_mostAlike_24 : decode cX6_mostAlike 24 = .ok (.iinc 3 1, 3) := by decide +kernel
theorem dX6_mostAlike_27 : decode cX6_mostAlike 27 = .ok (.goto (-23), 3) := by decide +kernel
theorem dX6_mostAlike_30 : decode cX6_mostAlike 30 = .ok (.iload_n 2, 1) := by decide +kernel
theorem dX6_mostAlike_31 : decode cX6_mostAlike 31 = .ok (.ireturn, 1) := by decide +kernel
theorem dX6_drawNotes_0 : decode cX6_drawNotes 0 = .ok (.aload_n 0, 1) := by decide +kernel
theorem dX6_drawNotes_1 : decode cX6_drawNotes 1 = .ok (.getfield 24, 3) := by decide +kernel
theorem dX6_drawNotes_4 : decode cX6_drawNotes 4 = .ok (.getfield 193, 3) := by decide +kernel
theorem dX6_drawNotes_7 : decode cX6_drawNotes 7 = .ok (.ifCond .ne 4, 3) := by decide +kernel
theorem dX6_drawNotes_10 : decode cX6_drawNotes 10 = .ok (.return_, 1) := by decide +kernel
theorem dX6_drawNotes_11 : decode cX6_drawNotes 11 = .ok (.iload_n 1, 1) := by decide +kernel
theorem dX6_drawNotes_12 : decode cX6_drawNotes 12 = .ok (.istore_n 3, 1) := by decide +kernel
theorem dX6_drawNotes_13 : decode cX6_drawNotes 13 = .ok (.iconst 0, 1) := by decide +kernel
theorem dX6_drawNotes_14 : decode cX6_drawNotes 14 = .ok (.istore 4, 2) := by decide +kernel
theorem dX6_drawNotes_16 : decode cX6_drawNotes 16 = .ok (.iload 4, 2) := by decide +kernel
theorem dX6_drawNotes_18 : decode cX6_drawNotes 18 = .ok (.iload_n 2, 1) := by decide +kernel
theorem dX6_drawNotes_19 : decode cX6_drawNotes 19 = .ok (.if_icmp .ge 49, 3) := by decide +kernel
theorem dX6_drawNotes_22 : decode cX6_drawNotes 22 = .ok (.iload_n 3, 1) := by decide +kernel
theorem dX6_drawNotes_23 : decode cX6_drawNotes 23 = .ok (.invokestatic 417, 3) := by decide +kernel
theorem dX6_drawNotes_26 : decode cX6_drawNotes 26 = .ok (.istore_n 3, 1) := by decide +kernel
theorem dX6_drawNotes_27 : decode cX6_drawNotes 27 = .ok (.iload_n 3, 1) := by decide +kernel
theorem dX6_drawNotes_28 : decode cX6_drawNotes 28 = .ok (.bipush 16, 2) := by decide +kernel
theorem dX6_drawNotes_30 : decode cX6_drawNotes 30 = .ok (.iushr, 1) := by decide +kernel
theorem dX6_drawNotes_31 : decode cX6_drawNotes 31 = .ok (.bipush 24, 2) := by decide +kernel
theorem dX6_drawNotes_33 : decode cX6_drawNotes 33 = .ok (.irem, 1) := by decide +kernel
theorem dX6_drawNotes_34 : decode cX6_drawNotes 34 = .ok (.istore 5, 2) := by decide +kernel
theorem dX6_drawNotes_36 : decode cX6_drawNotes 36 = .ok (.iload_n 3, 1) := by decide +kernel
theorem dX6_drawNotes_37 : decode cX6_drawNotes 37 = .ok (.invokestatic 417, 3) := by decide +kernel
theorem dX6_drawNotes_40 : decode cX6_drawNotes 40 = .ok (.istore_n 3, 1) := by decide +kernel
theorem dX6_drawNotes_41 : decode cX6_drawNotes 41 = .ok (.aload_n 0, 1) := by decide +kernel
theorem dX6_drawNotes_42 : decode cX6_drawNotes 42 = .ok (.getfield 28, 3) := by decide +kernel
theorem dX6_drawNotes_45 : decode cX6_drawNotes 45 = .ok (.iload 5, 2) := by decide +kernel
theorem dX6_drawNotes_47 : decode cX6_drawNotes 47 = .ok (.iload_n 3, 1) := by decide +kernel
theorem dX6_drawNotes_48 : decode cX6_drawNotes 48 = .ok (.bipush 16, 2) := by decide +kernel
theorem dX6_drawNotes_50 : decode cX6_drawNotes 50 = .ok (.iushr, 1) := by decide +kernel
theorem dX6_drawNotes_51 : decode cX6_drawNotes 51 = .ok (.aload_n 0, 1) := by decide +kernel
theorem dX6_drawNotes_52 : decode cX6_drawNotes 52 = .ok (.getfield 24, 3) := by decide +kernel
theorem dX6_drawNotes_55 : decode cX6_drawNotes 55 = .ok (.getfield 193, 3) := by decide +kernel
theorem dX6_drawNotes_58 : decode cX6_drawNotes 58 = .ok (.irem, 1) := by decide +kernel
theorem dX6_drawNotes_59 : decode cX6_drawNotes 59 = .ok (.invokevirtual 420, 3) := by decide +kernel
theorem dX6_drawNotes_62 : decode cX6_drawNotes 62 = .ok (.iinc 4 1, 3) := by decide +kernel
theorem dX6_drawNotes_65 : decode cX6_drawNotes 65 = .ok (.goto (-49), 3) := by decide +kernel
theorem dX6_drawNotes_68 : decode cX6_drawNotes 68 = .ok (.return_, 1) := by decide +kernel
theorem dX6_nextSeed_0 : decode cX6_nextSeed 0 = .ok (.ldc_w 423, 3) := by decide +kernel
theorem dX6_nextSeed_3 : decode cX6_nextSeed 3 = .ok (.iload_n 0, 1) := by decide +kernel
theorem dX6_nextSeed_4 : decode cX6_nextSeed 4 = .ok (.imul, 1) := by decide +kernel
theorem dX6_nextSeed_5 : decode cX6_nextSeed 5 = .ok (.sipush 12345, 3) := by decide +kernel
theorem dX6_nextSeed_8 : decode cX6_nextSeed 8 = .ok (.iadd, 1) := by decide +kernel
theorem dX6_nextSeed_9 : decode cX6_nextSeed 9 = .ok (.ireturn, 1) := by decide +kernel
