theorem kl_RL_13 : Cond.methodLink RL 13 yX6_type ∈ sy_T := sy_mem 375 (by decide +kernel) rfl
theorem kl_RL_17 : Cond.methodLink RL 17 yX7_type ∈ sy_T := sy_mem 934 (by decide +kernel) rfl
theorem ki_X7_type : sy_MI yX7_type cX7_type 3 (some .int) 2 := ⟨sy_mem 937 (by decide +kernel) rfl, sy_mem 75 (by decide +kernel) rfl, by decide +kernel, by decide⟩
theorem kv_X7_type : sy_MV yX7_type := ⟨sy_mem 935 (by decide +kernel) rfl, sy_mem 936 (by decide +kernel) rfl⟩
theorem ki_X6_type : sy_MI yX6_type cX6_type 4 (some .int) 2 := ⟨sy_mem 378 (by decide +kernel) rfl, sy_mem 68 (by decide +kernel) rfl, by decide +kernel, by decide⟩
theorem kv_X6_type : sy_MV yX6_type := ⟨sy_mem 376 (by decide +kernel) rfl, sy_mem 377 (by decide +kernel) rfl⟩
theorem kl_RL_18 : Cond.methodLink RL 18 yX6_wipe ∈ sy_T := sy_mem 447 (by decide +kernel) rfl
theorem kl_RL_22 : Cond.methodLink RL 22 yX7_wipe ∈ sy_T := sy_mem 942 (by decide +kernel) rfl
theorem ki_X7_wipe : sy_MI yX7_wipe cX7_wipe 3 (some .int) 1 := ⟨sy_mem 945 (by decide +kernel) rfl, sy_mem 75 (by decide +kernel) rfl, by decide +kernel, by decide⟩
theorem kv_X7_wipe : sy_MV yX7_wipe := ⟨sy_mem 943 (by decide +kernel) rfl, sy_mem 944 (by decide +kernel) rfl⟩
theorem ki_X6_wipe : sy_MI yX6_wipe cX6_wipe 4 (some .int) 1 := ⟨sy_mem 450 (by decide +kernel) rfl, sy_mem 68 (by decide +kernel) rfl, by decide +kernel, by decide⟩
theorem kv_X6_wipe : sy_MV yX6_wipe := ⟨sy_mem 448 (by decide +kernel) rfl, sy_mem 449 (by decide +kernel) rfl⟩
theorem kl_RL_23 : Cond.methodLink RL 23 yX6_undo ∈ sy_T := sy_mem 451 (by decide +kernel) rfl
theorem kl_RL_26 : Cond.methodLink RL 26 yX7_undo ∈ sy_T := sy_mem 946 (by decide +kernel) rfl
theorem ki_X7_undo : sy_MI yX7_undo cX7_undo 2 (some .int) 1 := ⟨sy_mem 949 (by decide +kernel) rfl, sy_mem 75 (by decide +kernel) rfl, by decide +kernel, by decide⟩
theorem kv_X7_undo : sy_MV yX7_undo := ⟨sy_mem 947 (by decide +kernel) rfl, sy_mem 948 (by decide +kernel) rfl⟩
theorem ki_X6_undo : sy_MI yX6_undo cX6_undo 3 (some .int) 1 := ⟨sy_mem 454 (by decide +kernel) rfl, sy_mem 68 (by decide +kernel) rfl, by decide +kernel, by decide⟩
theorem kv_X6_undo : sy_MV yX6_undo := ⟨sy_mem 452 (by decide +kernel) rfl, sy_mem 453 (by decide +kernel) rfl⟩
theorem kl_RL_27 : Cond.methodLink RL 27 yX6_fault ∈ sy_T := sy_mem 455 (by decide +kernel) rfl
theorem kl_RL_30 : Cond.methodLink RL 30 yX7_fault ∈ sy_T := sy_mem 950 (by decide +kernel) rfl
theorem ki_X7_fault : sy_MI yX7_fault cX7_fault 2 (some .int) 1 := ⟨sy_mem 953 (by decide +kernel) rfl, sy_mem 75 (by decide +kernel) rfl, by decide +kernel, by decide⟩
theorem kv_X7_fault : sy_MV yX7_fault := ⟨sy_mem 951 (by decide +kernel) rfl, sy_mem 952 (by decide +kernel) rfl⟩
theorem kl_RL_31 : Cond.methodLink RL 31 yX6_player ∈ sy_T := sy_mem 460 (by decide +kernel) rfl
theorem kl_RL_34 : Cond.methodLink RL 34 yX7_player ∈ sy_T := sy_mem 978 (by decide +kernel) rfl
theorem ki_X7_player : sy_MI yX7_player cX7_player 3 (some .int) 2 := ⟨sy_mem 981 (by decide +kernel) rfl, sy_mem 75 (by decide +kernel) rfl, by decide +kernel, by decide⟩
theorem kv_X7_player : sy_MV yX7_player := ⟨sy_mem 979 (by decide +kernel) rfl, sy_mem 980 (by decide +kernel) rfl⟩
theorem kl_RL_35 : Cond.methodLink RL 35 yX6_note ∈ sy_T := sy_mem 468 (by decide +kernel) rfl
theorem kl_RL_38 : Cond.methodLink RL 38 yX7_note ∈ sy_T := sy_mem 986 (by decide +kernel) rfl
theorem ki_X7_note : sy_MI yX7_note cX7_note 3 (some .int) 2 := ⟨sy_mem 989 (by decide +kernel) rfl, sy_mem 75 (by decide +kernel) rfl, by decide +kernel, by decide⟩
theorem kv_X7_note : sy_MV yX7_note := ⟨sy_mem 987 (by decide +kernel) rfl, sy_mem 988 (by decide +kernel) rfl⟩
theorem kl_RL_39 : Cond.methodLink RL 39 yX6_bag ∈ sy_T := sy_mem 472 (by decide +kernel) rfl
theorem kl_RL_42 : Cond.methodLink RL 42 yX7_bag ∈ sy_T := sy_mem 995 (by decide +kernel) rfl
theorem ki_X7_bag : sy_MI yX7_bag cX7_bag 3 (some .int) 1 := ⟨sy_mem 998 (by decide +kernel) rfl, sy_mem 75 (by decide +kernel) rfl, by decide +kernel, by decide⟩
theorem kv_X7_bag : sy_MV yX7_bag := ⟨sy_mem 996 (by decide +kernel) rfl, sy_mem 997 (by decide +kernel) rfl⟩
theorem ki_X6_bag : sy_MI yX6_bag cX6_bag 3 (some .int) 1 := ⟨sy_mem 475 (by decide +kernel) rfl, sy_mem 68 (by decide +kernel) rfl, by decide +kernel, by decide⟩
theorem kv_X6_bag : sy_MV yX6_bag := ⟨sy_mem 473 (by decide +kernel) rfl, sy_mem 474 (by decide +kernel) rfl⟩
theorem kl_RL_43 : Cond.methodLink RL 43 yX6_event ∈ sy_T := sy_mem 476 (by decide +kernel) rfl
theorem kl_RL_46 : Cond.methodLink RL 46 yX7_event ∈ sy_T := sy_mem 1000 (by decide +kernel) rfl
theorem ki_X6_event : sy_MI yX6_event cX6_event 3 (some .int) 2 := ⟨sy_mem 479 (by decide +kernel) rfl, sy_mem 68 (by decide +kernel) rfl, by decide +kernel, by decide⟩
theorem kv_X6_event : sy_MV yX6_event := ⟨sy_mem 477 (by decide +kernel) rfl, sy_mem 478 (by decide +kernel) rfl⟩
theorem kl_RL_47 : Cond.methodLink RL 47 yX6_back ∈ sy_T := sy_mem 488 (by decide +kernel) rfl
theorem kl_RL_51 : Cond.methodLink RL 51 yX7_back ∈ sy_T := sy_mem 1008 (by decide +kernel) rfl
theorem ki_X7_back : sy_MI yX7_back cX7_back 1 (some .int) 0 := ⟨sy_mem 1011 (by decide +kernel) rfl, sy_mem 75 (by decide +kernel) rfl, by decide +kernel, by decide⟩
theorem kv_X7_back : sy_MV yX7_back := ⟨sy_mem 1009 (by decide +kernel) rfl, sy_mem 1010 (by decide +kernel) rfl⟩
theorem ki_X6_back : sy_MI yX6_back cX6_back 1 (some .int) 0 := ⟨sy_mem 491 (by decide +kernel) rfl, sy_mem 68 (by decide +kernel) rfl, by decide +kernel, by decide⟩
theorem kv_X6_back : sy_MV yX6_back := ⟨sy_mem 489 (by decide +kernel) rfl, sy_mem 490 (by decide +kernel) rfl⟩
theorem kl_RL_52 : Cond.methodLink RL 52 yX6_read ∈ sy_T := sy_mem 492 (by decide +kernel) rfl
theorem kl_RL_55 : Cond.methodLink RL 55 yX7_read ∈ sy_T := sy_mem 1012 (by decide +kernel) rfl
theorem ki_X7_read : sy_MI yX7_read cX7_read 4 (some .int) 1 := ⟨sy_mem 1015 (by decide +kernel) rfl, sy_mem 75 (by decide +kernel) rfl, by decide +kernel, by decide⟩
theorem kv_X7_read : sy_MV yX7_read := ⟨sy_mem 1013 (by decide +kernel) rfl, sy_mem 1014 (by decide +kernel) rfl⟩
theorem ki_X6_read : sy_MI yX6_read cX6_read 7 (some .int) 1 := ⟨sy_mem 495 (by decide +kernel) rfl, sy_mem 68 (by decide +kernel) rfl, by decide +kernel, by decide⟩
theorem kv_X6_read : sy_MV yX6_read := ⟨sy_mem 493 (by decide +kernel) rfl, sy_mem 494 (by decide +kernel) rfl⟩
theorem kl_RL_56 : Cond.methodLink RL 56 yX6_at ∈ sy_T := sy_mem 500 (by decide +kernel) rfl
theorem kl_RL_59 : Cond.methodLink RL 59 yX7_at ∈ sy_T := sy_mem 1017 (by decide +kernel) rfl
theorem ki_X7_at : sy_MI yX7_at cX7_at 3 (some .int) 2 := ⟨sy_mem 1020 (by decide +kernel) rfl, sy_mem 75 (by decide +kernel) rfl, by decide +kernel, by decide⟩
theorem kv_X7_at : sy_MV yX7_at := ⟨sy_mem 1018 (by decide +kernel) rfl, sy_mem 1019 (by decide +kernel) rfl⟩
theorem kl_RL_60 : Cond.methodLink RL 60 yX6_heard ∈ sy_T := sy_mem 541 (by decide +kernel) rfl
theorem kl_RL_63 : Cond.methodLink RL 63 yX7_heard ∈ sy_T := sy_mem 1062 (by decide +kernel) rfl
theorem ki_X7_heard : sy_MI yX7_heard cX7_heard 2 (some .int) 1 := ⟨sy_mem 1065 (by decide +kernel) rfl, sy_mem 75 (by decide +kernel) rfl, by decide +kernel, by decide⟩
theorem kv_X7_heard : sy_MV yX7_heard := ⟨sy_mem 1063 (by decide +kernel) rfl, sy_mem 1064 (by decide +kernel) rfl⟩
theorem kl_RL_64 : Cond.methodLink RL 64 yX6_takes ∈ sy_T := sy_mem 549 (by decide +kernel) rfl
theorem kl_RL_67 : Cond.methodLink RL 67 yX7_takes ∈ sy_T := sy_mem 1070 (by decide +kernel) rfl
theorem ki_X7_takes : sy_MI yX7_takes cX7_takes 3 (some .int) 2 := ⟨sy_mem 1073 (by decide +kernel) rfl, sy_mem 75 (by decide +kernel) rfl, by decide +kernel, by decide⟩
theorem kv_X7_takes : sy_MV yX7_takes := ⟨sy_mem 1071 (by decide +kernel) rfl, sy_mem 1072 (by decide +kernel) rfl⟩
theorem kl_RL_68 : Cond.methodLink RL 68 yX6_sum ∈ sy_T := sy_mem 553 (by decide +kernel) rfl
theorem kl_RL_71 : Cond.methodLink RL 71 yX7_sum ∈ sy_T := sy_mem 1078 (by decide +kernel) rfl
theorem ki_X7_sum : sy_MI yX7_sum cX7_sum 2 (some .int) 1 := ⟨sy_mem 1081 (by decide +kernel) rfl, sy_mem 75 (by decide +kernel) rfl, by decide +kernel, by decide⟩
theorem kv_X7_sum : sy_MV yX7_sum := ⟨sy_mem 1079 (by decide +kernel) rfl, sy_mem 1080 (by decide +kernel) rfl⟩
theorem kl_RL_72 : Cond.methodLink RL 72 yX6_flat ∈ sy_T := sy_mem 557 (by decide +kernel) rfl
theorem kl_RL_75 : Cond.methodLink RL 75 yX7_flat ∈ sy_T := sy_mem 1090 (by decide +kernel) rfl
theorem ki_X7_flat : sy_MI yX7_flat cX7_flat 1 (some .int) 0 := ⟨sy_mem 1093 (by decide +kernel) rfl, sy_mem 75 (by decide +kernel) rfl, by decide +kernel, by decide⟩
theorem kv_X7_flat : sy_MV yX7_flat := ⟨sy_mem 1091 (by decide +kernel) rfl, sy_mem 1092 (by decide +kernel) rfl⟩
theorem kl_RL_76 : Cond.methodLink RL 76 yX6_silent ∈ sy_T := sy_mem 561 (by decide +kernel) rfl
theorem kl_RL_79 : Cond.methodLink RL 79 yX7_silent ∈ sy_T := sy_mem 1098 (by decide +kernel) rfl
theorem ki_X7_silent : sy_MI yX7_silent cX7_silent 1 (some .int) 0 := ⟨sy_mem 1101 (by decide +kernel) rfl, sy_mem 75 (by decide +kernel) rfl, by decide +kernel, by decide⟩
theorem kv_X7_silent : sy_MV yX7_silent := ⟨sy_mem 1099 (by decide +kernel) rfl, sy_mem 1100 (by decide +kernel) rfl⟩
theorem kl_RL_80 : Cond.methodLink RL 80 yX6_greedy ∈ sy_T := sy_mem 565 (by decide +kernel) rfl
theorem kl_RL_83 : Cond.methodLink RL 83 yX7_greedy ∈ sy_T := sy_mem 1106 (by decide +kernel) rfl
theorem ki_X7_greedy : sy_MI yX7_greedy cX7_greedy 1 (some .int) 0 := ⟨sy_mem 1109 (by decide +kernel) rfl, sy_mem 75 (by decide +kernel) rfl, by decide +kernel, by decide⟩
theorem kv_X7_greedy : sy_MV yX7_greedy := ⟨sy_mem 1107 (by decide +kernel) rfl, sy_mem 1108 (by decide +kernel) rfl⟩
theorem kl_RL_84 : Cond.methodLink RL 84 yX6_fill ∈ sy_T := sy_mem 569 (by decide +kernel) rfl
theorem kl_RL_87 : Cond.methodLink RL 87 yX7_fill ∈ sy_T := sy_mem 1117 (by decide +kernel) rfl
theorem ki_X7_fill : sy_MI yX7_fill cX7_fill 2 (some .int) 1 := ⟨sy_mem 1120 (by decide +kernel) rfl, sy_mem 75 (by decide +kernel) rfl, by decide +kernel, by decide⟩
theorem kv_X7_fill : sy_MV yX7_fill := ⟨sy_mem 1118 (by decide +kernel) rfl, sy_mem 1119 (by decide +kernel) rfl⟩
theorem kl_RL_88 : Cond.methodLink RL 88 yX6_swap ∈ sy_T := sy_mem 596 (by decide +kernel) rfl
theorem kl_RL_91 : Cond.methodLink RL 91 yX7_swap ∈ sy_T := sy_mem 1125 (by decide +kernel) rfl
theorem ki_X7_swap : sy_MI yX7_swap cX7_swap 2 (some .int) 1 := ⟨sy_mem 1128 (by decide +kernel) rfl, sy_mem 75 (by decide +kernel) rfl, by decide +kernel, by decide⟩
theorem kv_X7_swap : sy_MV yX7_swap := ⟨sy_mem 1126 (by decide +kernel) rfl, sy_mem 1127 (by decide +kernel) rfl⟩
theorem kl_RL_92 : Cond.methodLink RL 92 yX6_hold ∈ sy_T := sy_mem 608 (by decide +kernel) rfl
theorem kl_RL_95 : Cond.methodLink RL 95 yX7_hold ∈ sy_T := sy_mem 1133 (by decide +kernel) rfl
theorem ki_X7_hold : sy_MI yX7_hold cX7_hold 2 (some .int) 1 := ⟨sy_mem 1136 (by decide +kernel) rfl, sy_mem 75 (by decide +kernel) rfl, by decide +kernel, by decide⟩
theorem kv_X7_hold : sy_MV yX7_hold := ⟨sy_mem 1134 (by decide +kernel) rfl, sy_mem 1135 (by decide +kernel) rfl⟩
theorem kl_RL_96 : Cond.methodLink RL 96 yX6_spare ∈ sy_T := sy_mem 616 (by decide +kernel) rfl
theorem kl_RL_99 : Cond.methodLink RL 99 yX7_spare ∈ sy_T := sy_mem 1141 (by decide +kernel) rfl
theorem ki_X7_spare : sy_MI yX7_spare cX7_spare 2 (some .int) 1 := ⟨sy_mem 1144 (by decide +kernel) rfl, sy_mem 75 (by decide +kernel) rfl, by decide +kernel, by decide⟩
theorem kv_X7_spare : sy_MV yX7_spare := ⟨sy_mem 1142 (by decide +kernel) rfl, sy_mem 1143 (by decide +kernel) rfl⟩
theorem kl_RL_100 : Cond.methodLink RL 100 yX6_hear ∈ sy_T := sy_mem 628 (by decide +kernel) rfl
theorem kl_RL_103 : Cond.methodLink RL 103 yX7_hear ∈ sy_T := sy_mem 1154 (by decide +kernel) rfl
theorem ki_X7_hear : sy_MI yX7_hear cX7_hear 3 (some .int) 2 := ⟨sy_mem 1157 (by decide +kernel) rfl, sy_mem 75 (by decide +kernel) rfl, by decide +kernel, by decide⟩
theorem kv_X7_hear : sy_MV yX7_hear := ⟨sy_mem 1155 (by decide +kernel) rfl, sy_mem 1156 (by decide +kernel) rfl⟩
theorem ki_X6_hear : sy_MI yX6_hear cX6_hear 3 (some .int) 2 := ⟨sy_mem 631 (by decide +kernel) rfl, sy_mem 68 (by decide +kernel) rfl, by decide +kernel, by decide⟩
theorem kv_X6_hear : sy_MV yX6_hear := ⟨sy_mem 629 (by decide +kernel) rfl, sy_mem 630 (by decide +kernel) rfl⟩
theorem kl_RL_104 : Cond.methodLink RL 104 yX6_forget ∈ sy_T := sy_mem 636 (by decide +kernel) rfl
theorem kl_RL_107 : Cond.methodLink RL 107 yX7_forget ∈ sy_T := sy_mem 1158 (by decide +kernel) rfl
theorem ki_X7_forget : sy_MI yX7_forget cX7_forget 2 (some .int) 0 := ⟨sy_mem 1161 (by decide +kernel) rfl, sy_mem 75 (by decide +kernel) rfl, by decide +kernel, by decide⟩
theorem kv_X7_forget : sy_MV yX7_forget := ⟨sy_mem 1159 (by decide +kernel) rfl, sy_mem 1160 (by decide +kernel) rfl⟩
theorem ki_X6_forget : sy_MI yX6_forget cX6_forget 2 (some .int) 0 := ⟨sy_mem 639 (by decide +kernel) rfl, sy_mem 68 (by decide +kernel) rfl, by decide +kernel, by decide⟩
theorem kv_X6_forget : sy_MV yX6_forget := ⟨sy_mem 637 (by decide +kernel) rfl, sy_mem 638 (by decide +kernel) rfl⟩
theorem kl_RL_108 : Cond.methodLink RL 108 yX6_never ∈ sy_T := sy_mem 640 (by decide +kernel) rfl
theorem kl_RL_111 : Cond.methodLink RL 111 yX7_never ∈ sy_T := sy_mem 1162 (by decide +kernel) rfl
theorem ki_X7_never : sy_MI yX7_never cX7_never 1 (some .int) 0 := ⟨sy_mem 1165 (by decide +kernel) rfl, sy_mem 75 (by decide +kernel) rfl, by decide +kernel, by decide⟩
theorem kv_X7_never : sy_MV yX7_never := ⟨sy_mem 1163 (by decide +kernel) rfl, sy_mem 1164 (by decide +kernel) rfl⟩
theorem kl_RL_112 : Cond.methodLink RL 112 yX6_was ∈ sy_T := sy_mem 652 (by decide +kernel) rfl
theorem kl_RL_115 : Cond.methodLink RL 115 yX7_was ∈ sy_T := sy_mem 1174 (by decide +kernel) rfl
theorem ki_X7_was : sy_MI yX7_was cX7_was 3 (some .int) 2 := ⟨sy_mem 1177 (by decide +kernel) rfl, sy_mem 75 (by decide +kernel) rfl, by decide +kernel, by decide⟩
theorem kv_X7_was : sy_MV yX7_was := ⟨sy_mem 1175 (by decide +kernel) rfl, sy_mem 1176 (by decide +kernel) rfl⟩
theorem kl_RL_116 : Cond.methodLink RL 116 yX6_ask ∈ sy_T := sy_mem 656 (by decide +kernel) rfl
theorem kl_RL_119 : Cond.methodLink RL 119 yX7_ask ∈ sy_T := sy_mem 1190 (by decide +kernel) rfl
theorem ki_X7_ask : sy_MI yX7_ask cX7_ask 2 (some .int) 1 := ⟨sy_mem 1193 (by decide +kernel) rfl, sy_mem 75 (by decide +kernel) rfl, by decide +kernel, by decide⟩
theorem kv_X7_ask : sy_MV yX7_ask := ⟨sy_mem 1191 (by decide +kernel) rfl, sy_mem 1192 (by decide +kernel) rfl⟩
theorem kl_RL_120 : Cond.methodLink RL 120 yX6_chance ∈ sy_T := sy_mem 672 (by decide +kernel) rfl
theorem kl_RL_124 : Cond.methodLink RL 124 yX7_chance ∈ sy_T := sy_mem 1202 (by decide +kernel) rfl
theorem ki_X7_chance : sy_MI yX7_chance cX7_chance 4 (some .long) 3 := ⟨sy_mem 1205 (by decide +kernel) rfl, sy_mem 75 (by decide +kernel) rfl, by decide +kernel, by decide⟩
theorem kv_X7_chance : sy_MV yX7_chance := ⟨sy_mem 1203 (by decide +kernel) rfl, sy_mem 1204 (by decide +kernel) rfl⟩
theorem kl_RL_125 : Cond.methodLink RL 125 yX6_years ∈ sy_T := sy_mem 692 (by decide +kernel) rfl
theorem kl_RL_129 : Cond.methodLink RL 129 yX7_years ∈ sy_T := sy_mem 1218 (by decide +kernel) rfl
theorem ki_X7_years : sy_MI yX7_years cX7_years 4 (some .int) 3 := ⟨sy_mem 1221 (by decide +kernel) rfl, sy_mem 75 (by decide +kernel) rfl, by decide +kernel, by decide⟩
theorem kv_X7_years : sy_MV yX7_years := ⟨sy_mem 1219 (by decide +kernel) rfl, sy_mem 1220 (by decide +kernel) rfl⟩
theorem kl_RL_130 : Cond.methodLink RL 130 yX6_sheet ∈ sy_T := sy_mem 706 (by decide +kernel) rfl
theorem kl_RL_133 : Cond.methodLink RL 133 yX7_sheet ∈ sy_T := sy_mem 894 (by decide +kernel) rfl
theorem ki_X7_sheet : sy_MI yX7_sheet cX7_sheet 5 (some .int) 3 := ⟨sy_mem 897 (by decide +kernel) rfl, sy_mem 75 (by decide +kernel) rfl, by decide +kernel, by decide⟩
theorem kv_X7_sheet : sy_MV yX7_sheet := ⟨sy_mem 895 (by decide +kernel) rfl, sy_mem 896 (by decide +kernel) rfl⟩
theorem ki_X6_sheet : sy_MI yX6_sheet cX6_sheet 4 (some .int) 3 := ⟨sy_mem 709 (by decide +kernel) rfl, sy_mem 68 (by decide +kernel) rfl, by decide +kernel, by decide⟩
theorem kv_X6_sheet : sy_MV yX6_sheet := ⟨sy_mem 707 (by decide +kernel) rfl, sy_mem 708 (by decide +kernel) rfl⟩
theorem kl_RL_134 : Cond.methodLink RL 134 yX6_lose ∈ sy_T := sy_mem 715 (by decide +kernel) rfl
theorem kl_RL_137 : Cond.methodLink RL 137 yX7_lose ∈ sy_T := sy_mem 910 (by decide +kernel) rfl
theorem ki_X7_lose : sy_MI yX7_lose cX7_lose 2 (some .int) 1 := ⟨sy_mem 913 (by decide +kernel) rfl, sy_mem 75 (by decide +kernel) rfl, by decide +kernel, by decide⟩
theorem kv_X7_lose : sy_MV yX7_lose := ⟨sy_mem 911 (by decide +kernel) rfl, sy_mem 912 (by decide +kernel) rfl⟩
theorem ki_X6_lose : sy_MI yX6_lose cX6_lose 3 (some .int) 1 := ⟨sy_mem 718 (by decide +kernel) rfl, sy_mem 68 (by decide +kernel) rfl, by decide +kernel, by decide⟩
theorem kv_X6_lose : sy_MV yX6_lose := ⟨sy_mem 716 (by decide +kernel) rfl, sy_mem 717 (by decide +kernel) rfl⟩
theorem kl_RL_138 : Cond.methodLink RL 138 yX6_lay ∈ sy_T := sy_mem 719 (by decide +kernel) rfl
theorem kl_RL_142 : Cond.methodLink RL 142 yX7_lay ∈ sy_T := sy_mem 914 (by decide +kernel) rfl
theorem ki_X7_lay : sy_MI yX7_lay cX7_lay 6 (some .int) 4 := ⟨sy_mem 917 (by decide +kernel) rfl, sy_mem 75 (by decide +kernel) rfl, by decide +kernel, by decide⟩
theorem kv_X7_lay : sy_MV yX7_lay := ⟨sy_mem 915 (by decide +kernel) rfl, sy_mem 916 (by decide +kernel) rfl⟩
theorem ki_X6_lay : sy_MI yX6_lay cX6_lay 6 (some .int) 4 := ⟨sy_mem 722 (by decide +kernel) rfl, sy_mem 68 (by decide +kernel) rfl, by decide +kernel, by decide⟩
theorem kv_X6_lay : sy_MV yX6_lay := ⟨sy_mem 720 (by decide +kernel) rfl, sy_mem 721 (by decide +kernel) rfl⟩
theorem kl_RL_143 : Cond.methodLink RL 143 yX6_get ∈ sy_T := sy_mem 731 (by decide +kernel) rfl
theorem kl_RL_146 : Cond.methodLink RL 146 yX7_get ∈ sy_T := sy_mem 925 (by decide +kernel) rfl
theorem ki_X7_get : sy_MI yX7_get cX7_get 4 (some .int) 3 := ⟨sy_mem 928 (by decide +kernel) rfl, sy_mem 75 (by decide +kernel) rfl, by decide +kernel, by decide⟩
theorem kv_X7_get : sy_MV yX7_get := ⟨sy_mem 926 (by decide +kernel) rfl, sy_mem 927 (by decide +kernel) rfl⟩
theorem ki_X6_get : sy_MI yX6_get cX6_get 5 (some .int) 3 := ⟨sy_mem 734 (by decide +kernel) rfl, sy_mem 68 (by decide +kernel) rfl, by decide +kernel, by decide⟩
theorem kv_X6_get : sy_MV yX6_get := ⟨sy_mem 732 (by decide +kernel) rfl, sy_mem 733 (by decide +kernel) rfl⟩
theorem kl_RL_147 : Cond.methodLink RL 147 yX6_copy ∈ sy_T := sy_mem 736 (by decide +kernel) rfl
theorem kl_RL_151 : Cond.methodLink RL 151 yX7_copy ∈ sy_T := sy_mem 930 (by decide +kernel) rfl
theorem ki_X7_copy : sy_MI yX7_copy cX7_copy 7 (some .int) 5 := ⟨sy_mem 933 (by decide +kernel) rfl, sy_mem 75 (by decide +kernel) rfl, by decide +kernel, by decide⟩
theorem kv_X7_copy : sy_MV yX7_copy := ⟨sy_mem 931 (by decide +kernel) rfl, sy_mem 932 (by decide +kernel) rfl⟩
theorem ki_X6_copy : sy_MI yX6_copy cX6_copy 8 (some .int) 5 := ⟨sy_mem 739 (by decide +kernel) rfl, sy_mem 68 (by decide +kernel) rfl, by decide +kernel, by decide⟩
theorem kv_X6_copy : sy_MV yX6_copy := ⟨sy_mem 737 (by decide +kernel) rfl, sy_mem 738 (by decide +kernel) rfl⟩
theorem kl_RL_152 : Cond.methodLink RL 152 yX6_write ∈ sy_T := sy_mem 745 (by decide +kernel) rfl
theorem kl_RL_155 : Cond.methodLink RL 155 yX7_write ∈ sy_T := sy_mem 1231 (by decide +kernel) rfl
theorem ki_X7_write : sy_MI yX7_write cX7_write 4 (some .int) 1 := ⟨sy_mem 1234 (by decide +kernel) rfl, sy_mem 75 (by decide +kernel) rfl, by decide +kernel, by decide⟩
theorem kv_X7_write : sy_MV yX7_write := ⟨sy_mem 1232 (by decide +kernel) rfl, sy_mem 1233 (by decide +kernel) rfl⟩
theorem ki_X6_write : sy_MI yX6_write cX6_write 6 (some .int) 1 := ⟨sy_mem 748 (by decide +kernel) rfl, sy_mem 68 (by decide +kernel) rfl, by decide +kernel, by decide⟩
theorem kv_X6_write : sy_MV yX6_write := ⟨sy_mem 746 (by decide +kernel) rfl, sy_mem 747 (by decide +kernel) rfl⟩
theorem kl_RL_156 : Cond.methodLink RL 156 yX6_count ∈ sy_T := sy_mem 750 (by decide +kernel) rfl
theorem kl_RL_159 : Cond.methodLink RL 159 yX7_count ∈ sy_T := sy_mem 1235 (by decide +kernel) rfl
theorem kl_RL_160 : Cond.methodLink RL 160 yX6_digest ∈ sy_T := sy_mem 754 (by decide +kernel) rfl
theorem kl_RL_164 : Cond.methodLink RL 164 yX7_digest ∈ sy_T := sy_mem 1239 (by decide +kernel) rfl
theorem ki_X7_digest : sy_MI yX7_digest cX7_digest 5 (some .long) 0 := ⟨sy_mem 1242 (by decide +kernel) rfl, sy_mem 75 (by decide +kernel) rfl, by decide +kernel, by decide⟩
theorem kv_X7_digest : sy_MV yX7_digest := ⟨sy_mem 1240 (by decide +kernel) rfl, sy_mem 1241 (by decide +kernel) rfl⟩
theorem ki_X6_digest : sy_MI yX6_digest cX6_digest 4 (some .long) 0 := ⟨sy_mem 757 (by decide +kernel) rfl, sy_mem 68 (by decide +kernel) rfl, by decide +kernel, by decide⟩
theorem kv_X6_digest : sy_MV yX6_digest := ⟨sy_mem 755 (by decide +kernel) rfl, sy_mem 756 (by decide +kernel) rfl⟩
/-- the script: an int array of L ints at cell 81's address, outside of what is written -/
def sy_X : Kx → Nat → (Nat → Int32) → Prop
  | (p, l, e, R, s, m, args, below, meth, c, cells, slots, Q, D, A, ad, cI, cR), L, xs => va_X (ad 81) L xs s s.heap ∧ ad 81 < s.heap.size ∧ ¬ A (ad 81)
section LawRows
variable {α : Type} {cv : α → Option Value} {κ : Kx} {cc : ByteArray} {nL d : Nat} {own : String} {ret : Option FieldType} {pc : Nat} {lv : List (Option Value)} {st : List Value} {σ : St} {res : Option (α × St)} {L : Nat} {xs : Nat → Int32}
theorem ab_sld (hκ : Gd κ cc nL own ret d) (hX : sy_X κ L xs) {i : Int32} (hd : decode cc pc = .ok (.iaload, 1)) (kk : Ab cv κ (pc + 1) lv (.int (xs (sy_ix i)) :: st) σ res) : Ab cv κ pc lv (.int i :: .ref 81 :: st) σ (sy_gd i L res) := by
  obtain ⟨p, l, e, R, s, m, args, below, meth, c, cells, slots, Q, D, A, ad, cI, cR⟩ := κ
  obtain ⟨hx, hb, hml, hown, hts, hK, hinj, hA, hfr, hlo, hce, hsl, hrt, hn1, hn2⟩ := hκ
  obtain ⟨x1, x2, x3⟩ := hX
  intro r σ' hr hret H locs ls hP hS hL
  unfold sy_gd at hr
  by_cases h0 : i < 0 ∨ L ≤ i.toNatClampNeg
  · rw [if_pos h0] at hr; cases hr
  · rw [if_neg h0] at hr
    exact va_sld hx hb x1 x2 x3 hS h0 hd (kk r σ' hr hret H locs ls hP hS hL)
theorem ab_slen (hκ : Gd κ cc nL own ret d) (hX : sy_X κ L xs) (hd : decode cc pc = .ok (.arraylength, 1)) (kk : Ab cv κ (pc + 1) lv (.int (nI L) :: st) σ res) : Ab cv κ pc lv (.ref 81 :: st) σ res := by
  obtain ⟨p, l, e, R, s, m, args, below, meth, c, cells, slots, Q, D, A, ad, cI, cR⟩ := κ
  obtain ⟨hx, hb, hml, hown, hts, hK, hinj, hA, hfr, hlo, hce, hsl, hrt, hn1, hn2⟩ := hκ
  obtain ⟨x1, x2, x3⟩ := hX
  intro r σ' hr hret H locs ls hP hS hL
  exact va_slen hx hb x1 x2 x3 hS hd (kk r σ' hr hret H locs ls hP hS hL)
end LawRows
def ml_law_L18b (L : Nat) (xs : Nat → Int32) (K18 : Int32 → St → Option (Int32 × St)) (x1 : Int32) (σ : St) : Option (Int32 × St) := if ((nI L) - 6) < x1 then (sy_zg 1 (some (1, σ))) else (sy_gd x1 L (sy_sw ((xs (sy_ix x1)) &&& 63) [sy_gd (x1 + 1) L (sy_gd (x1 + 2) L (sy_bd (m6_type (xs (sy_ix (x1 + 1))) (xs (sy_ix (x1 + 2))) σ) (fun r3 σ2 => sy_gd (x1 + 1) L (sy_gd (x1 + 2) L (sy_bd (m7_type (xs (sy_ix (x1 + 1))) (xs (sy_ix (x1 + 2))) σ2) (fun r5 σ4 => if r3 = r5 then (K18 (x1 + 6) σ4) else (sy_zg 0 (some (0, σ4))))))))), sy_gd (x1 + 1) L (sy_bd (m6_wipe (xs (sy_ix (x1 + 1))) σ) (fun r7 σ6 => sy_gd (x1 + 1) L (sy_bd (m7_wipe (xs (sy_ix (x1 + 1))) σ6) (fun r9 σ8 => if r7 = r9 then (K18 (x1 + 6) σ8) else (sy_zg 0 (some (0, σ8))))))), sy_gd (x1 + 1) L (sy_bd (m6_undo (xs (sy_ix (x1 + 1))) σ) (fun r11 σ10 => sy_gd (x1 + 1) L (sy_bd (m7_undo (xs (sy_ix (x1 + 1))) σ10) (fun r13 σ12 => if r11 = r13 then (K18 (x1 + 6) σ12) else (sy_zg 0 (some (0, σ12))))))), sy_gd (x1 + 1) L (sy_bd (m6_fault (xs (sy_ix (x1 + 1))) σ) (fun r15 σ14 => sy_gd (x1 + 1) L (sy_bd (m7_fault (xs (sy_ix (x1 + 1))) σ14) (fun r17 σ16 => if r15 = r17 then (K18 (x1 + 6) σ16) else (sy_zg 0 (some (0, σ16))))))), sy_gd (x1 + 1) L (sy_gd (x1 + 2) L (sy_bd (m6_player (xs (sy_ix (x1 + 1))) (xs (sy_ix (x1 + 2))) σ) (fun r19 σ18 => sy_gd (x1 + 1) L (sy_gd (x1 + 2) L (sy_bd (m7_player (xs (sy_ix (x1 + 1))) (xs (sy_ix (x1 + 2))) σ18) (fun r21 σ20 => if r19 = r21 then (K18 (x1 + 6) σ20) else (sy_zg 0 (some (0, σ20))))))))), sy_gd (x1 + 1) L (sy_gd (x1 + 2) L (sy_bd (m6_note (xs (sy_ix (x1 + 1))) (xs (sy_ix (x1 + 2))) σ) (fun r23 σ22 => sy_gd (x1 + 1) L (sy_gd (x1 + 2) L (sy_bd (m7_note (xs (sy_ix (x1 + 1))) (xs (sy_ix (x1 + 2))) σ22) (fun r25 σ24 => if r23 = r25 then (K18 (x1 + 6) σ24) else (sy_zg 0 (some (0, σ24))))))))), sy_gd (x1 + 1) L (sy_bd (m6_bag (xs (sy_ix (x1 + 1))) σ) (fun r27 σ26 => sy_gd (x1 + 1) L (sy_bd (m7_bag (xs (sy_ix (x1 + 1))) σ26) (fun r29 σ28 => if r27 = r29 then (K18 (x1 + 6) σ28) else (sy_zg 0 (some (0, σ28))))))), sy_gd (x1 + 1) L (sy_gd (x1 + 2) L (sy_bd (m6_event (xs (sy_ix (x1 + 1))) (xs (sy_ix (x1 + 2))) σ) (fun r31 σ30 => sy_gd (x1 + 1) L (sy_gd (x1 + 2) L (sy_bd (m7_event (xs (sy_ix (x1 + 1))) (xs (sy_ix (x1 + 2))) σ30) (fun r33 σ32 => if r31 = r33 then (K18 (x1 + 6) σ32) else (sy_zg 0 (some (0, σ32))))))))), sy_bd (m6_back σ) (fun r35 σ34 => sy_bd (m7_back σ34) (fun r37 σ36 => if r35 = r37 then (K18 (x1 + 6) σ36) else (sy_zg 0 (some (0, σ36))))), sy_gd (x1 + 1) L (sy_bd (m6_read (xs (sy_ix (x1 + 1))) σ) (fun r39 σ38 => sy_gd (x1 + 1) L (sy_bd (m7_read (xs (sy_ix (x1 + 1))) σ38) (fun r41 σ40 => if r39 = r41 then (K18 (x1 + 6) σ40) else (sy_zg 0 (some (0, σ40))))))), sy_gd (x1 + 1) L (sy_gd (x1 + 2) L (sy_bd (m6_at (xs (sy_ix (x1 + 1))) (xs (sy_ix (x1 + 2))) σ) (fun r43 σ42 => sy_gd (x1 + 1) L (sy_gd (x1 + 2) L (sy_bd (m7_at (xs (sy_ix (x1 + 1))) (xs (sy_ix (x1 + 2))) σ42) (fun r45 σ44 => if r43 = r45 then (K18 (x1 + 6) σ44) else (sy_zg 0 (some (0, σ44))))))))), sy_gd (x1 + 1) L (sy_bd (m6_heard (xs (sy_ix (x1 + 1))) σ) (fun r47 σ46 => sy_gd (x1 + 1) L (sy_bd (m7_heard (xs (sy_ix (x1 + 1))) σ46) (fun r49 σ48 => if r47 = r49 then (K18 (x1 + 6) σ48) else (sy_zg 0 (some (0, σ48))))))), sy_gd (x1 + 1) L (sy_gd (x1 + 2) L (sy_bd (m6_takes (xs (sy_ix (x1 + 1))) (xs (sy_ix (x1 + 2))) σ) (fun r51 σ50 => sy_gd (x1 + 1) L (sy_gd (x1 + 2) L (sy_bd (m7_takes (xs (sy_ix (x1 + 1))) (xs (sy_ix (x1 + 2))) σ50) (fun r53 σ52 => if r51 = r53 then (K18 (x1 + 6) σ52) else (sy_zg 0 (some (0, σ52))))))))), sy_gd (x1 + 1) L (sy_bd (m6_sum (xs (sy_ix (x1 + 1))) σ) (fun r55 σ54 => sy_gd (x1 + 1) L (sy_bd (m7_sum (xs (sy_ix (x1 + 1))) σ54) (fun r57 σ56 => if r55 = r57 then (K18 (x1 + 6) σ56) else (sy_zg 0 (some (0, σ56))))))), sy_bd (m6_flat σ) (fun r59 σ58 => sy_bd (m7_flat σ58) (fun r61 σ60 => if r59 = r61 then (K18 (x1 + 6) σ60) else (sy_zg 0 (some (0, σ60))))), sy_bd (m6_silent σ) (fun r63 σ62 => sy_bd (m7_silent σ62) (fun r65 σ64 => if r63 = r65 then (K18 (x1 + 6) σ64) else (sy_zg 0 (some (0, σ64))))), sy_bd (m6_greedy σ) (fun r67 σ66 => sy_bd (m7_greedy σ66) (fun r69 σ68 => if r67 = r69 then (K18 (x1 + 6) σ68) else (sy_zg 0 (some (0, σ68))))), sy_gd (x1 + 1) L (sy_bd (m6_fill (xs (sy_ix (x1 + 1))) σ) (fun r71 σ70 => sy_gd (x1 + 1) L (sy_bd (m7_fill (xs (sy_ix (x1 + 1))) σ70) (fun r73 σ72 => if r71 = r73 then (K18 (x1 + 6) σ72) else (sy_zg 0 (some (0, σ72))))))), sy_gd (x1 + 1) L (sy_bd (m6_swap (xs (sy_ix (x1 + 1))) σ) (fun r75 σ74 => sy_gd (x1 + 1) L (sy_bd (m7_swap (xs (sy_ix (x1 + 1))) σ74) (fun r77 σ76 => if r75 = r77 then (K18 (x1 + 6) σ76) else (sy_zg 0 (some (0, σ76))))))), sy_gd (x1 + 1) L (sy_bd (m6_hold (xs (sy_ix (x1 + 1))) σ) (fun r79 σ78 => sy_gd (x1 + 1) L (sy_bd (m7_hold (xs (sy_ix (x1 + 1))) σ78) (fun r81 σ80 => if r79 = r81 then (K18 (x1 + 6) σ80) else (sy_zg 0 (some (0, σ80))))))), sy_gd (x1 + 1) L (sy_bd (m6_spare (xs (sy_ix (x1 + 1))) σ) (fun r83 σ82 => sy_gd (x1 + 1) L (sy_bd (m7_spare (xs (sy_ix (x1 + 1))) σ82) (fun r85 σ84 => if r83 = r85 then (K18 (x1 + 6) σ84) else (sy_zg 0 (some (0, σ84))))))), sy_gd (x1 + 1) L (sy_gd (x1 + 2) L (sy_bd (m6_hear (xs (sy_ix (x1 + 1))) (xs (sy_ix (x1 + 2))) σ) (fun r87 σ86 => sy_gd (x1 + 1) L (sy_gd (x1 + 2) L (sy_bd (m7_hear (xs (sy_ix (x1 + 1))) (xs (sy_ix (x1 + 2))) σ86) (fun r89 σ88 => if r87 = r89 then (K18 (x1 + 6) σ88) else (sy_zg 0 (some (0, σ88))))))))), sy_bd (m6_forget σ) (fun r91 σ90 => sy_bd (m7_forget σ90) (fun r93 σ92 => if r91 = r93 then (K18 (x1 + 6) σ92) else (sy_zg 0 (some (0, σ92))))), sy_bd (m6_never σ) (fun r95 σ94 => sy_bd (m7_never σ94) (fun r97 σ96 => if r95 = r97 then (K18 (x1 + 6) σ96) else (sy_zg 0 (some (0, σ96))))), sy_gd (x1 + 1) L (sy_gd (x1 + 2) L (sy_bd (m6_was (xs (sy_ix (x1 + 1))) (xs (sy_ix (x1 + 2))) σ) (fun r99 σ98 => sy_gd (x1 + 1) L (sy_gd (x1 + 2) L (sy_bd (m7_was (xs (sy_ix (x1 + 1))) (xs (sy_ix (x1 + 2))) σ98) (fun r101 σ100 => if r99 = r101 then (K18 (x1 + 6) σ100) else (sy_zg 0 (some (0, σ100))))))))), sy_gd (x1 + 1) L (sy_bd (m6_ask (xs (sy_ix (x1 + 1))) σ) (fun r103 σ102 => sy_gd (x1 + 1) L (sy_bd (m7_ask (xs (sy_ix (x1 + 1))) σ102) (fun r105 σ104 => if r103 = r105 then (K18 (x1 + 6) σ104) else (sy_zg 0 (some (0, σ104))))))), sy_gd (x1 + 1) L (sy_gd (x1 + 2) L (sy_gd (x1 + 3) L (sy_bd (m6_chance (xs (sy_ix (x1 + 1))) (xs (sy_ix (x1 + 2))) (xs (sy_ix (x1 + 3))) σ) (fun r107 σ106 => sy_gd (x1 + 1) L (sy_gd (x1 + 2) L (sy_gd (x1 + 3) L (sy_bd (m7_chance (xs (sy_ix (x1 + 1))) (xs (sy_ix (x1 + 2))) (xs (sy_ix (x1 + 3))) σ106) (fun r109 σ108 => if (lg_cmp r107 r109) = 0 then (K18 (x1 + 6) σ108) else (sy_zg 0 (some (0, σ108))))))))))), sy_gd (x1 + 1) L (sy_gd (x1 + 2) L (sy_gd (x1 + 3) L (sy_bd (m6_years (xs (sy_ix (x1 + 1))) (xs (sy_ix (x1 + 2))) (xs (sy_ix (x1 + 3))) σ) (fun r111 σ110 => sy_gd (x1 + 1) L (sy_gd (x1 + 2) L (sy_gd (x1 + 3) L (sy_bd (m7_years (xs (sy_ix (x1 + 1))) (xs (sy_ix (x1 + 2))) (xs (sy_ix (x1 + 3))) σ110) (fun r113 σ112 => if r111 = r113 then (K18 (x1 + 6) σ112) else (sy_zg 0 (some (0, σ112))))))))))), sy_gd (x1 + 1) L (sy_gd (x1 + 2) L (sy_gd (x1 + 3) L (sy_bd (m6_sheet (xs (sy_ix (x1 + 1))) (xs (sy_ix (x1 + 2))) (xs (sy_ix (x1 + 3))) σ) (fun r115 σ114 => sy_gd (x1 + 1) L (sy_gd (x1 + 2) L (sy_gd (x1 + 3) L (sy_bd (m7_sheet (xs (sy_ix (x1 + 1))) (xs (sy_ix (x1 + 2))) (xs (sy_ix (x1 + 3))) σ114) (fun r117 σ116 => if r115 = r117 then (K18 (x1 + 6) σ116) else (sy_zg 0 (some (0, σ116))))))))))), sy_gd (x1 + 1) L (sy_bd (m6_lose (xs (sy_ix (x1 + 1))) σ) (fun r119 σ118 => sy_gd (x1 + 1) L (sy_bd (m7_lose (xs (sy_ix (x1 + 1))) σ118) (fun r121 σ120 => if r119 = r121 then (K18 (x1 + 6) σ120) else (sy_zg 0 (some (0, σ120))))))), sy_gd (x1 + 1) L (sy_gd (x1 + 2) L (sy_gd (x1 + 3) L (sy_gd (x1 + 4) L (sy_bd (m6_lay (xs (sy_ix (x1 + 1))) (xs (sy_ix (x1 + 2))) (xs (sy_ix (x1 + 3))) (xs (sy_ix (x1 + 4))) σ) (fun r123 σ122 => sy_gd (x1 + 1) L (sy_gd (x1 + 2) L (sy_gd (x1 + 3) L (sy_gd (x1 + 4) L (sy_bd (m7_lay (xs (sy_ix (x1 + 1))) (xs (sy_ix (x1 + 2))) (xs (sy_ix (x1 + 3))) (xs (sy_ix (x1 + 4))) σ122) (fun r125 σ124 => if r123 = r125 then (K18 (x1 + 6) σ124) else (sy_zg 0 (some (0, σ124))))))))))))), sy_gd (x1 + 1) L (sy_gd (x1 + 2) L (sy_gd (x1 + 3) L (sy_bd (m6_get (xs (sy_ix (x1 + 1))) (xs (sy_ix (x1 + 2))) (xs (sy_ix (x1 + 3))) σ) (fun r127 σ126 => sy_gd (x1 + 1) L (sy_gd (x1 + 2) L (sy_gd (x1 + 3) L (sy_bd (m7_get (xs (sy_ix (x1 + 1))) (xs (sy_ix (x1 + 2))) (xs (sy_ix (x1 + 3))) σ126) (fun r129 σ128 => if r127 = r129 then (K18 (x1 + 6) σ128) else (sy_zg 0 (some (0, σ128))))))))))), sy_gd (x1 + 1) L (sy_gd (x1 + 2) L (sy_gd (x1 + 3) L (sy_gd (x1 + 4) L (sy_gd (x1 + 5) L (sy_bd (m6_copy (xs (sy_ix (x1 + 1))) (xs (sy_ix (x1 + 2))) (xs (sy_ix (x1 + 3))) (xs (sy_ix (x1 + 4))) (xs (sy_ix (x1 + 5))) σ) (fun r131 σ130 => sy_gd (x1 + 1) L (sy_gd (x1 + 2) L (sy_gd (x1 + 3) L (sy_gd (x1 + 4) L (sy_gd (x1 + 5) L (sy_bd (m7_copy (xs (sy_ix (x1 + 1))) (xs (sy_ix (x1 + 2))) (xs (sy_ix (x1 + 3))) (xs (sy_ix (x1 + 4))) (xs (sy_ix (x1 + 5))) σ130) (fun r133 σ132 => if r131 = r133 then (K18 (x1 + 6) σ132) else (sy_zg 0 (some (0, σ132))))))))))))))), sy_gd (x1 + 1) L (sy_bd (m6_write (xs (sy_ix (x1 + 1))) σ) (fun r135 σ134 => sy_gd (x1 + 1) L (sy_bd (m7_write (xs (sy_ix (x1 + 1))) σ134) (fun r137 σ136 => if r135 = r137 then (K18 (x1 + 6) σ136) else (sy_zg 0 (some (0, σ136))))))), sy_gd (x1 + 1) L (sy_bd (m6_count (xs (sy_ix (x1 + 1))) σ) (fun r139 σ138 => sy_gd (x1 + 1) L (sy_bd (m7_count (xs (sy_ix (x1 + 1))) σ138) (fun r141 σ140 => if r139 = r141 then (K18 (x1 + 6) σ140) else (sy_zg 0 (some (0, σ140))))))), sy_bd (m6_digest σ) (fun r143 σ142 => sy_bd (m7_digest σ142) (fun r145 σ144 => if (lg_cmp r143 r145) = 0 then (K18 (x1 + 6) σ144) else (sy_zg 0 (some (0, σ144)))))] (K18 (x1 + 6) σ)))
def ml_law_L18 (L : Nat) (xs : Nat → Int32) : Nat → Int32 → St → Option (Int32 × St)
  | 0 => fun _ _ => none
  | n + 1 => ml_law_L18b L xs (ml_law_L18 L xs  n) 
set_option maxRecDepth 100000 in
set_option maxHeartbeats 4000000 in
theorem ml_law_L18b_ok {κ : Kx} (hκ : Gd κ cL_law 4 RL (some .boolean) 10) (L : Nat) (xs : Nat → Int32) (hX : sy_X κ L xs) {K18 : Int32 → St → Option (Int32 × St)} (hK18 : ∀ (x1 : Int32) (σ : St), Ab sy_vi κ 18 [sy_vr 81, sy_vr 0, sy_vr 61, sy_vi x1] [] σ (K18 x1 σ)) (x1 : Int32) (σ : St) : Ab sy_vi κ 18 [sy_vr 81, sy_vr 0, sy_vr 61, sy_vi x1] [] σ (ml_law_L18b L xs K18 x1 σ) := by
  unfold ml_law_L18b
  refine ab_iload_n hκ dL_law_18 rfl ?_
  refine ab_aload_n hκ dL_law_19 rfl ?_
  refine ab_slen hκ hX dL_law_20 ?_
  refine ab_bipush (v := 6) hκ dL_law_21 rfl ?_
  refine ab_isub hκ dL_law_23 ?_
  refine ab_icmp_gt (tgt := 1188) hκ dL_law_24 rfl ?_ ?_
  · refine ab_iconst (v := 1) hκ dL_law_1188 rfl ?_
    exact ab_zret hκ dL_law_1189
  · refine ab_aload_n hκ dL_law_27 rfl ?_
    refine ab_iload_n hκ dL_law_28 rfl ?_
    refine ab_sld hκ hX dL_law_29 ?_
    refine ab_bipush (v := 63) hκ dL_law_30 rfl ?_
    refine ab_iand hκ dL_law_32 ?_
    refine ab_tsw hκ dL_law_33 rfl rfl (by decide) ?_ ⟨?_, ?_, ?_, ?_, ?_, ?_, ?_, ?_, ?_, ?_, ?_, ?_, ?_, ?_, ?_, ?_, ?_, ?_, ?_, ?_, ?_, ?_, ?_, ?_, ?_, ?_, ?_, ?_, ?_, ?_, ?_, ?_, ?_, ?_, ?_, ?_, trivial⟩
    · refine ab_iinc (v := (x1 + 6)) (lv' := [sy_vr 81, sy_vr 0, sy_vr 61, sy_vi (x1 + 6)]) hκ dL_law_1182 rfl rfl (by decide) rfl ?_
      refine ab_goto (tgt := 18) hκ dL_law_1185 rfl ?_
      exact hK18 (x1 + 6) σ
    · refine ab_aload_n hκ dL_law_192 rfl ?_
      refine ab_aload_n hκ dL_law_193 rfl ?_
      refine ab_iload_n hκ dL_law_194 rfl ?_
      refine ab_iconst (v := 1) hκ dL_law_195 rfl ?_
      refine ab_iadd hκ dL_law_196 ?_
      refine ab_sld hκ hX dL_law_197 ?_
      refine ab_aload_n hκ dL_law_198 rfl ?_
      refine ab_iload_n hκ dL_law_199 rfl ?_
      refine ab_iconst (v := 2) hκ dL_law_200 rfl ?_
      refine ab_iadd hκ dL_law_201 ?_
      refine ab_sld hκ hX dL_law_202 ?_
      refine ab_cVi (vs := [.int (xs (sy_ix (x1 + 1))), .int (xs (sy_ix (x1 + 2)))]) (st := []) hκ dL_law_203 kl_RL_13 ki_X6_type kv_X6_type (sy_o6 rfl) rfl rfl (m6_type_ok (xs (sy_ix (x1 + 1))) (xs (sy_ix (x1 + 2))) σ) rfl (by decide) (Nat.le_of_ble_eq_true rfl) rfl (fun r3 σ2 => ?_)
      refine ab_aload_n hκ dL_law_206 rfl ?_
      refine ab_aload_n hκ dL_law_207 rfl ?_
      refine ab_iload_n hκ dL_law_208 rfl ?_
      refine ab_iconst (v := 1) hκ dL_law_209 rfl ?_
      refine ab_iadd hκ dL_law_210 ?_
      refine ab_sld hκ hX dL_law_211 ?_
      refine ab_aload_n hκ dL_law_212 rfl ?_
      refine ab_iload_n hκ dL_law_213 rfl ?_
      refine ab_iconst (v := 2) hκ dL_law_214 rfl ?_
      refine ab_iadd hκ dL_law_215 ?_
      refine ab_sld hκ hX dL_law_216 ?_
      refine ab_cVi (vs := [.int (xs (sy_ix (x1 + 1))), .int (xs (sy_ix (x1 + 2)))]) (st := [.int r3]) hκ dL_law_217 kl_RL_17 ki_X7_type kv_X7_type (sy_o7 rfl) rfl rfl (m7_type_ok (xs (sy_ix (x1 + 1))) (xs (sy_ix (x1 + 2))) σ2) rfl (by decide) (Nat.le_of_ble_eq_true rfl) rfl (fun r5 σ4 => ?_)
      refine ab_icmp_eq (tgt := 1182) hκ dL_law_220 rfl ?_ ?_
      · refine ab_iinc (v := (x1 + 6)) (lv' := [sy_vr 81, sy_vr 0, sy_vr 61, sy_vi (x1 + 6)]) hκ dL_law_1182 rfl rfl (by decide) rfl ?_
        refine ab_goto (tgt := 18) hκ dL_law_1185 rfl ?_
        exact hK18 (x1 + 6) σ4
      · refine ab_iconst (v := 0) hκ dL_law_223 rfl ?_
        exact ab_zret hκ dL_law_224
    · refine ab_aload_n hκ dL_law_225 rfl ?_
      refine ab_aload_n hκ dL_law_226 rfl ?_
      refine ab_iload_n hκ dL_law_227 rfl ?_
      refine ab_iconst (v := 1) hκ dL_law_228 rfl ?_
      refine ab_iadd hκ dL_law_229 ?_
      refine ab_sld hκ hX dL_law_230 ?_
      refine ab_cVi (vs := [.int (xs (sy_ix (x1 + 1)))]) (st := []) hκ dL_law_231 kl_RL_18 ki_X6_wipe kv_X6_wipe (sy_o6 rfl) rfl rfl (m6_wipe_ok (xs (sy_ix (x1 + 1))) σ) rfl (by decide) (Nat.le_of_ble_eq_true rfl) rfl (fun r7 σ6 => ?_)
      refine ab_aload_n hκ dL_law_234 rfl ?_
      refine ab_aload_n hκ dL_law_235 rfl ?_
      refine ab_iload_n hκ dL_law_236 rfl ?_
      refine ab_iconst (v := 1) hκ dL_law_237 rfl ?_
      refine ab_iadd hκ dL_law_238 ?_
      refine ab_sld hκ hX dL_law_239 ?_
      refine ab_cVi (vs := [.int (xs (sy_ix (x1 + 1)))]) (st := [.int r7]) hκ dL_law_240 kl_RL_22 ki_X7_wipe kv_X7_wipe (sy_o7 rfl) rfl rfl (m7_wipe_ok (xs (sy_ix (x1 + 1))) σ6) rfl (by decide) (Nat.le_of_ble_eq_true rfl) rfl (fun r9 σ8 => ?_)
      refine ab_icmp_eq (tgt := 1182) hκ dL_law_243 rfl ?_ ?_
      · refine ab_iinc (v := (x1 + 6)) (lv' := [sy_vr 81, sy_vr 0, sy_vr 61, sy_vi (x1 + 6)]) hκ dL_law_1182 rfl rfl (by decide) rfl ?_
        refine ab_goto (tgt := 18) hκ dL_law_1185 rfl ?_
        exact hK18 (x1 + 6) σ8
      · refine ab_iconst (v := 0) hκ dL_law_246 rfl ?_
        exact ab_zret hκ dL_law_247
    · refine ab_aload_n hκ dL_law_248 rfl ?_
      refine ab_aload_n hκ dL_law_249 rfl ?_
      refine ab_iload_n hκ dL_law_250 rfl ?_
      refine ab_iconst (v := 1) hκ dL_law_251 rfl ?_
      refine ab_iadd hκ dL_law_252 ?_
      refine ab_sld hκ hX dL_law_253 ?_
      refine ab_cVi (vs := [.int (xs (sy_ix (x1 + 1)))]) (st := []) hκ dL_law_254 kl_RL_23 ki_X6_undo kv_X6_undo (sy_o6 rfl) rfl rfl (m6_undo_ok (xs (sy_ix (x1 + 1))) σ) rfl (by decide) (Nat.le_of_ble_eq_true rfl) rfl (fun r11 σ10 => ?_)
      refine ab_aload_n hκ dL_law_257 rfl ?_
      refine ab_aload_n hκ dL_law_258 rfl ?_
      refine ab_iload_n hκ dL_law_259 rfl ?_
      refine ab_iconst (v := 1) hκ dL_law_260 rfl ?_
      refine ab_iadd hκ dL_law_261 ?_
      refine ab_sld hκ hX dL_law_262 ?_
      refine ab_cVi (vs := [.int (xs (sy_ix (x1 + 1)))]) (st := [.int r11]) hκ dL_law_263 kl_RL_26 ki_X7_undo kv_X7_undo (sy_o7 rfl) rfl rfl (m7_undo_ok (xs (sy_ix (x1 + 1))) σ10) rfl (by decide) (Nat.le_of_ble_eq_true rfl) rfl (fun r13 σ12 => ?_)
      refine ab_icmp_eq (tgt := 1182) hκ dL_law_266 rfl ?_ ?_
      · refine ab_iinc (v := (x1 + 6)) (lv' := [sy_vr 81, sy_vr 0, sy_vr 61, sy_vi (x1 + 6)]) hκ dL_law_1182 rfl rfl (by decide) rfl ?_
        refine ab_goto (tgt := 18) hκ dL_law_1185 rfl ?_
        exact hK18 (x1 + 6) σ12
      · refine ab_iconst (v := 0) hκ dL_law_269 rfl ?_
        exact ab_zret hκ dL_law_270
    · refine ab_aload_n hκ dL_law_271 rfl ?_
      refine ab_aload_n hκ dL_law_272 rfl ?_
      refine ab_iload_n hκ dL_law_273 rfl ?_
      refine ab_iconst (v := 1) hκ dL_law_274 rfl ?_
      refine ab_iadd hκ dL_law_275 ?_
      refine ab_sld hκ hX dL_law_276 ?_
      refine ab_cVi (vs := [.int (xs (sy_ix (x1 + 1)))]) (st := []) hκ dL_law_277 kl_RL_27 ki_X6_fault kv_X6_fault (sy_o6 rfl) rfl rfl (m6_fault_ok (xs (sy_ix (x1 + 1))) σ) rfl (by decide) (Nat.le_of_ble_eq_true rfl) rfl (fun r15 σ14 => ?_)
      refine ab_aload_n hκ dL_law_280 rfl ?_
      refine ab_aload_n hκ dL_law_281 rfl ?_
      refine ab_iload_n hκ dL_law_282 rfl ?_
      refine ab_iconst (v := 1) hκ dL_law_283 rfl ?_
      refine ab_iadd hκ dL_law_284 ?_
      refine ab_sld hκ hX dL_law_285 ?_
      refine ab_cVi (vs := [.int (xs (sy_ix (x1 + 1)))]) (st := [.int r15]) hκ dL_law_286 kl_RL_30 ki_X7_fault kv_X7_fault (sy_o7 rfl) rfl rfl (m7_fault_ok (xs (sy_ix (x1 + 1))) σ14) rfl (by decide) (Nat.le_of_ble_eq_true rfl) rfl (fun r17 σ16 => ?_)
      refine ab_icmp_eq (tgt := 1182) hκ dL_law_289 rfl ?_ ?_
      · refine ab_iinc (v := (x1 + 6)) (lv' := [sy_vr 81, sy_vr 0, sy_vr 61, sy_vi (x1 + 6)]) hκ dL_law_1182 rfl rfl (by decide) rfl ?_
        refine ab_goto (tgt := 18) hκ dL_law_1185 rfl ?_
        exact hK18 (x1 + 6) σ16
      · refine ab_iconst (v := 0) hκ dL_law_292 rfl ?_
        exact ab_zret hκ dL_law_293
    · refine ab_aload_n hκ dL_law_294 rfl ?_
      refine ab_aload_n hκ dL_law_295 rfl ?_
      refine ab_iload_n hκ dL_law_296 rfl ?_
      refine ab_iconst (v := 1) hκ dL_law_297 rfl ?_
      refine ab_iadd hκ dL_law_298 ?_
      refine ab_sld hκ hX dL_law_299 ?_
      refine ab_aload_n hκ dL_law_300 rfl ?_
      refine ab_iload_n hκ dL_law_301 rfl ?_
      refine ab_iconst (v := 2) hκ dL_law_302 rfl ?_
      refine ab_iadd hκ dL_law_303 ?_
      refine ab_sld hκ hX dL_law_304 ?_
      refine ab_cVi (vs := [.int (xs (sy_ix (x1 + 1))), .int (xs (sy_ix (x1 + 2)))]) (st := []) hκ dL_law_305 kl_RL_31 ki_X6_player kv_X6_player (sy_o6 rfl) rfl rfl (m6_player_ok (xs (sy_ix (x1 + 1))) (xs (sy_ix (x1 + 2))) σ) rfl (by decide) (Nat.le_of_ble_eq_true rfl) rfl (fun r19 σ18 => ?_)
      refine ab_aload_n hκ dL_law_308 rfl ?_
      refine ab_aload_n hκ dL_law_309 rfl ?_
      refine ab_iload_n hκ dL_law_310 rfl ?_
      refine ab_iconst (v := 1) hκ dL_law_311 rfl ?_
      refine ab_iadd hκ dL_law_312 ?_
      refine ab_sld hκ hX dL_law_313 ?_
      refine ab_aload_n hκ dL_law_314 rfl ?_
      refine ab_iload_n hκ dL_law_315 rfl ?_
      refine ab_iconst (v := 2) hκ dL_law_316 rfl ?_
      refine ab_iadd hκ dL_law_317 ?_
      refine ab_sld hκ hX dL_law_318 ?_
      refine ab_cVi (vs := [.int (xs (sy_ix (x1 + 1))), .int (xs (sy_ix (x1 + 2)))]) (st := [.int r19]) hκ dL_law_319 kl_RL_34 ki_X7_player kv_X7_player (sy_o7 rfl) rfl rfl (m7_player_ok (xs (sy_ix (x1 + 1))) (xs (sy_ix (x1 + 2))) σ18) rfl (by decide) (Nat.le_of_ble_eq_true rfl) rfl (fun r21 σ20 => ?_)
      refine ab_icmp_eq (tgt := 1182) hκ dL_law_322 rfl ?_ ?_
      · refine ab_iinc (v := (x1 + 6)) (lv' := [sy_vr 81, sy_vr 0, sy_vr 61, sy_vi (x1 + 6)]) hκ dL_law_1182 rfl rfl (by decide) rfl ?_
        refine ab_goto (tgt := 18) hκ dL_law_1185 rfl ?_
        exact hK18 (x1 + 6) σ20
      · refine ab_iconst (v := 0) hκ dL_law_325 rfl ?_
        exact ab_zret hκ dL_law_326
    · refine ab_aload_n hκ dL_law_327 rfl ?_
      refine ab_aload_n hκ dL_law_328 rfl ?_
      refine ab_iload_n hκ dL_law_329 rfl ?_
      refine ab_iconst (v := 1) hκ dL_law_330 rfl ?_
      refine ab_iadd hκ dL_law_331 ?_
      refine ab_sld hκ hX dL_law_332 ?_
      refine ab_aload_n hκ dL_law_333 rfl ?_
      refine ab_iload_n hκ dL_law_334 rfl ?_
      refine ab_iconst (v := 2) hκ dL_law_335 rfl ?_
      refine ab_iadd hκ dL_law_336 ?_
      refine ab_sld hκ hX dL_law_337 ?_
      refine ab_cVi (vs := [.int (xs (sy_ix (x1 + 1))), .int (xs (sy_ix (x1 + 2)))]) (st := []) hκ dL_law_338 kl_RL_35 ki_X6_note kv_X6_note (sy_o6 rfl) rfl rfl (m6_note_ok (xs (sy_ix (x1 + 1))) (xs (sy_ix (x1 + 2))) σ) rfl (by decide) (Nat.le_of_ble_eq_true rfl) rfl (fun r23 σ22 => ?_)
      refine ab_aload_n hκ dL_law_341 rfl ?_
      refine ab_aload_n hκ dL_law_342 rfl ?_
      refine ab_iload_n hκ dL_law_343 rfl ?_
      refine ab_iconst (v := 1) hκ dL_law_344 rfl ?_
      refine ab_iadd hκ dL_law_345 ?_
      refine ab_sld hκ hX dL_law_346 ?_
      refine ab_aload_n hκ dL_law_347 rfl ?_
      refine ab_iload_n hκ dL_law_348 rfl ?_
      refine ab_iconst (v := 2) hκ dL_law_349 rfl ?_
      refine ab_iadd hκ dL_law_350 ?_
      refine ab_sld hκ hX dL_law_351 ?_
      refine ab_cVi (vs := [.int (xs (sy_ix (x1 + 1))), .int (xs (sy_ix (x1 + 2)))]) (st := [.int r23]) hκ dL_law_352 kl_RL_38 ki_X7_note kv_X7_note (sy_o7 rfl) rfl rfl (m7_note_ok (xs (sy_ix (x1 + 1))) (xs (sy_ix (x1 + 2))) σ22) rfl (by decide) (Nat.le_of_ble_eq_true rfl) rfl (fun r25 σ24 => ?_)
      refine ab_icmp_eq (tgt := 1182) hκ dL_law_355 rfl ?_ ?_
      · refine ab_iinc (v := (x1 + 6)) (lv' := [sy_vr 81, sy_vr 0, sy_vr 61, sy_vi (x1 + 6)]) hκ dL_law_1182 rfl rfl (by decide) rfl ?_
        refine ab_goto (tgt := 18) hκ dL_law_1185 rfl ?_
        exact hK18 (x1 + 6) σ24
      · refine ab_iconst (v := 0) hκ dL_law_358 rfl ?_
        exact ab_zret hκ dL_law_359
    · refine ab_aload_n hκ dL_law_360 rfl ?_
      refine ab_aload_n hκ dL_law_361 rfl ?_
      refine ab_iload_n hκ dL_law_362 rfl ?_
      refine ab_iconst (v := 1) hκ dL_law_363 rfl ?_
      refine ab_iadd hκ dL_law_364 ?_
      refine ab_sld hκ hX dL_law_365 ?_
      refine ab_cVi (vs := [.int (xs (sy_ix (x1 + 1)))]) (st := []) hκ dL_law_366 kl_RL_39 ki_X6_bag kv_X6_bag (sy_o6 rfl) rfl rfl (m6_bag_ok (xs (sy_ix (x1 + 1))) σ) rfl (by decide) (Nat.le_of_ble_eq_true rfl) rfl (fun r27 σ26 => ?_)
      refine ab_aload_n hκ dL_law_369 rfl ?_
      refine ab_aload_n hκ dL_law_370 rfl ?_
      refine ab_iload_n hκ dL_law_371 rfl ?_
      refine ab_iconst (v := 1) hκ dL_law_372 rfl ?_
      refine ab_iadd hκ dL_law_373 ?_
      refine ab_sld hκ hX dL_law_374 ?_
      refine ab_cVi (vs := [.int (xs (sy_ix (x1 + 1)))]) (st := [.int r27]) hκ dL_law_375 kl_RL_42 ki_X7_bag kv_X7_bag (sy_o7 rfl) rfl rfl (m7_bag_ok (xs (sy_ix (x1 + 1))) σ26) rfl (by decide) (Nat.le_of_ble_eq_true rfl) rfl (fun r29 σ28 => ?_)
      refine ab_icmp_eq (tgt := 1182) hκ dL_law_378 rfl ?_ ?_
      · refine ab_iinc (v := (x1 + 6)) (lv' := [sy_vr 81, sy_vr 0, sy_vr 61, sy_vi (x1 + 6)]) hκ dL_law_1182 rfl rfl (by decide) rfl ?_
        refine ab_goto (tgt := 18) hκ dL_law_1185 rfl ?_
        exact hK18 (x1 + 6) σ28
      · refine ab_iconst (v := 0) hκ dL_law_381 rfl ?_
        exact ab_zret hκ dL_law_382
    · refine ab_aload_n hκ dL_law_383 rfl ?_
      refine ab_aload_n hκ dL_law_384 rfl ?_
      refine ab_iload_n hκ dL_law_385 rfl ?_
      refine ab_iconst (v := 1) hκ dL_law_386 rfl ?_
      refine ab_iadd hκ dL_law_387 ?_
      refine ab_sld hκ hX dL_law_388 ?_
      refine ab_aload_n hκ dL_law_389 rfl ?_
      refine ab_iload_n hκ dL_law_390 rfl ?_
      refine ab_iconst (v := 2) hκ dL_law_391 rfl ?_
      refine ab_iadd hκ dL_law_392 ?_
      refine ab_sld hκ hX dL_law_393 ?_
      refine ab_cVi (vs := [.int (xs (sy_ix (x1 + 1))), .int (xs (sy_ix (x1 + 2)))]) (st := []) hκ dL_law_394 kl_RL_43 ki_X6_event kv_X6_event (sy_o6 rfl) rfl rfl (m6_event_ok (xs (sy_ix (x1 + 1))) (xs (sy_ix (x1 + 2))) σ) rfl (by decide) (Nat.le_of_ble_eq_true rfl) rfl (fun r31 σ30 => ?_)
      refine ab_aload_n hκ dL_law_397 rfl ?_
      refine ab_aload_n hκ dL_law_398 rfl ?_
      refine ab_iload_n hκ dL_law_399 rfl ?_
      refine ab_iconst (v := 1) hκ dL_law_400 rfl ?_
      refine ab_iadd hκ dL_law_401 ?_
      refine ab_sld hκ hX dL_law_402 ?_
      refine ab_aload_n hκ dL_law_403 rfl ?_
      refine ab_iload_n hκ dL_law_404 rfl ?_
      refine ab_iconst (v := 2) hκ dL_law_405 rfl ?_
      refine ab_iadd hκ dL_law_406 ?_
      refine ab_sld hκ hX dL_law_407 ?_
      refine ab_cVi (vs := [.int (xs (sy_ix (x1 + 1))), .int (xs (sy_ix (x1 + 2)))]) (st := [.int r31]) hκ dL_law_408 kl_RL_46 ki_X7_event kv_X7_event (sy_o7 rfl) rfl rfl (m7_event_ok (xs (sy_ix (x1 + 1))) (xs (sy_ix (x1 + 2))) σ30) rfl (by decide) (Nat.le_of_ble_eq_true rfl) rfl (fun r33 σ32 => ?_)
      refine ab_icmp_eq (tgt := 1182) hκ dL_law_411 rfl ?_ ?_
      · refine ab_iinc (v := (x1 + 6)) (lv' := [sy_vr 81, sy_vr 0, sy_vr 61, sy_vi (x1 + 6)]) hκ dL_law_1182 rfl rfl (by decide) rfl ?_
        refine ab_goto (tgt := 18) hκ dL_law_1185 rfl ?_
        exact hK18 (x1 + 6) σ32
      · refine ab_iconst (v := 0) hκ dL_law_414 rfl ?_
        exact ab_zret hκ dL_law_415
    · refine ab_aload_n hκ dL_law_416 rfl ?_
      refine ab_cVi (vs := []) (st := []) hκ dL_law_417 kl_RL_47 ki_X6_back kv_X6_back (sy_o6 rfl) rfl rfl (m6_back_ok σ) rfl (by decide) (Nat.le_of_ble_eq_true rfl) rfl (fun r35 σ34 => ?_)
      refine ab_aload_n hκ dL_law_420 rfl ?_
      refine ab_cVi (vs := []) (st := [.int r35]) hκ dL_law_421 kl_RL_51 ki_X7_back kv_X7_back (sy_o7 rfl) rfl rfl (m7_back_ok σ34) rfl (by decide) (Nat.le_of_ble_eq_true rfl) rfl (fun r37 σ36 => ?_)
      refine ab_icmp_eq (tgt := 1182) hκ dL_law_424 rfl ?_ ?_
      · refine ab_iinc (v := (x1 + 6)) (lv' := [sy_vr 81, sy_vr 0, sy_vr 61, sy_vi (x1 + 6)]) hκ dL_law_1182 rfl rfl (by decide) rfl ?_
        refine ab_goto (tgt := 18) hκ dL_law_1185 rfl ?_
        exact hK18 (x1 + 6) σ36
      · refine ab_iconst (v := 0) hκ dL_law_427 rfl ?_
        exact ab_zret hκ dL_law_428
    · refine ab_aload_n hκ dL_law_429 rfl ?_
      refine ab_aload_n hκ dL_law_430 rfl ?_
      refine ab_iload_n hκ dL_law_431 rfl ?_
      refine ab_iconst (v := 1) hκ dL_law_432 rfl ?_
      refine ab_iadd hκ dL_law_433 ?_
      refine ab_sld hκ hX dL_law_434 ?_
      refine ab_cVi (vs := [.int (xs (sy_ix (x1 + 1)))]) (st := []) hκ dL_law_435 kl_RL_52 ki_X6_read kv_X6_read (sy_o6 rfl) rfl rfl (m6_read_ok (xs (sy_ix (x1 + 1))) σ) rfl (by decide) (Nat.le_of_ble_eq_true rfl) rfl (fun r39 σ38 => ?_)
      refine ab_aload_n hκ dL_law_438 rfl ?_
      refine ab_aload_n hκ dL_law_439 rfl ?_
      refine ab_iload_n hκ dL_law_440 rfl ?_
      refine ab_iconst (v := 1) hκ dL_law_441 rfl ?_
      refine ab_iadd hκ dL_law_442 ?_
      refine ab_sld hκ hX dL_law_443 ?_
      refine ab_cVi (vs := [.int (xs (sy_ix (x1 + 1)))]) (st := [.int r39]) hκ dL_law_444 kl_RL_55 ki_X7_read kv_X7_read (sy_o7 rfl) rfl rfl (m7_read_ok (xs (sy_ix (x1 + 1))) σ38) rfl (by decide) (Nat.le_of_ble_eq_true rfl) rfl (fun r41 σ40 => ?_)
      refine ab_icmp_eq (tgt := 1182) hκ dL_law_447 rfl ?_ ?_
      · refine ab_iinc (v := (x1 + 6)) (lv' := [sy_vr 81, sy_vr 0, sy_vr 61, sy_vi (x1 + 6)]) hκ dL_law_1182 rfl rfl (by decide) rfl ?_
        refine ab_goto (tgt := 18) hκ dL_law_1185 rfl ?_
        exact hK18 (x1 + 6) σ40
      · refine ab_iconst (v := 0) hκ dL_law_450 rfl ?_
        exact ab_zret hκ dL_law_451
    · refine ab_aload_n hκ dL_law_452 rfl ?_
      refine ab_aload_n hκ dL_law_453 rfl ?_
      refine ab_iload_n hκ dL_law_454 rfl ?_
      refine ab_iconst (v := 1) hκ dL_law_455 rfl ?_
      refine ab_iadd hκ dL_law_456 ?_
      refine ab_sld hκ hX dL_law_457 ?_
      refine ab_aload_n hκ dL_law_458 rfl ?_
      refine ab_iload_n hκ dL_law_459 rfl ?_
      refine ab_iconst (v := 2) hκ dL_law_460 rfl ?_
      refine ab_iadd hκ dL_law_461 ?_
      refine ab_sld hκ hX dL_law_462 ?_
      refine ab_cVi (vs := [.int (xs (sy_ix (x1 + 1))), .int (xs (sy_ix (x1 + 2)))]) (st := []) hκ dL_law_463 kl_RL_56 ki_X6_at kv_X6_at (sy_o6 rfl) rfl rfl (m6_at_ok (xs (sy_ix (x1 + 1))) (xs (sy_ix (x1 + 2))) σ) rfl (by decide) (Nat.le_of_ble_eq_true rfl) rfl (fun r43 σ42 => ?_)
      refine ab_aload_n hκ dL_law_466 rfl ?_
      refine ab_aload_n hκ dL_law_467 rfl ?_
      refine ab_iload_n hκ dL_law_468 rfl ?_
      refine ab_iconst (v := 1) hκ dL_law_469 rfl ?_
      refine ab_iadd hκ dL_law_470 ?_
      refine ab_sld hκ hX dL_law_471 ?_
      refine ab_aload_n hκ dL_law_472 rfl ?_
      refine ab_iload_n hκ dL_law_473 rfl ?_
      refine ab_iconst (v := 2) hκ dL_law_474 rfl ?_
      refine ab_iadd hκ dL_law_475 ?_
      refine ab_sld hκ hX dL_law_476 ?_
      refine ab_cVi (vs := [.int (xs (sy_ix (x1 + 1))), .int (xs (sy_ix (x1 + 2)))]) (st := [.int r43]) hκ dL_law_477 kl_RL_59 ki_X7_at kv_X7_at (sy_o7 rfl) rfl rfl (m7_at_ok (xs (sy_ix (x1 + 1))) (xs (sy_ix (x1 + 2))) σ42) rfl (by decide) (Nat.le_of_ble_eq_true rfl) rfl (fun r45 σ44 => ?_)
      refine ab_icmp_eq (tgt := 1182) hκ dL_law_480 rfl ?_ ?_
      · refine ab_iinc (v := (x1 + 6)) (lv' := [sy_vr 81, sy_vr 0, sy_vr 61, sy_vi (x1 + 6)]) hκ dL_law_1182 rfl rfl (by decide) rfl ?_
        refine ab_goto (tgt := 18) hκ dL_law_1185 rfl ?_
        exact hK18 (x1 + 6) σ44
      · refine ab_iconst (v := 0) hκ dL_law_483 rfl ?_
        exact ab_zret hκ dL_law_484
    · refine ab_aload_n hκ dL_law_485 rfl ?_
      refine ab_aload_n hκ dL_law_486 rfl ?_
      refine ab_iload_n hκ dL_law_487 rfl ?_
      refine ab_iconst (v := 1) hκ dL_law_488 rfl ?_
      refine ab_iadd hκ dL_law_489 ?_
      refine ab_sld hκ hX dL_law_490 ?_
      refine ab_cVi (vs := [.int (xs (sy_ix (x1 + 1)))]) (st := []) hκ dL_law_491 kl_RL_60 ki_X6_heard kv_X6_heard (sy_o6 rfl) rfl rfl (m6_heard_ok (xs (sy_ix (x1 + 1))) σ) rfl (by decide) (Nat.le_of_ble_eq_true rfl) rfl (fun r47 σ46 => ?_)
      refine ab_aload_n hκ dL_law_494 rfl ?_
      refine ab_aload_n hκ dL_law_495 rfl ?_
      refine ab_iload_n hκ dL_law_496 rfl ?_
      refine ab_iconst (v := 1) hκ dL_law_497 rfl ?_
      refine ab_iadd hκ dL_law_498 ?_
      refine ab_sld hκ hX dL_law_499 ?_
      refine ab_cVi (vs := [.int (xs (sy_ix (x1 + 1)))]) (st := [.int r47]) hκ dL_law_500 kl_RL_63 ki_X7_heard kv_X7_heard (sy_o7 rfl) rfl rfl (m7_heard_ok (xs (sy_ix (x1 + 1))) σ46) rfl (by decide) (Nat.le_of_ble_eq_true rfl) rfl (fun r49 σ48 => ?_)
      refine ab_icmp_eq (tgt := 1182) hκ dL_law_503 rfl ?_ ?_
      · refine ab_iinc (v := (x1 + 6)) (lv' := [sy_vr 81, sy_vr 0, sy_vr 61, sy_vi (x1 + 6)]) hκ dL_law_1182 rfl rfl (by decide) rfl ?_
        refine ab_goto (tgt := 18) hκ dL_law_1185 rfl ?_
        exact hK18 (x1 + 6) σ48
      · refine ab_iconst (v := 0) hκ dL_law_506 rfl ?_
        exact ab_zret hκ dL_law_507
    · refine ab_aload_n hκ dL_law_508 rfl ?_
      refine ab_aload_n hκ dL_law_509 rfl ?_
      refine ab_iload_n hκ dL_law_510 rfl ?_
      refine ab_iconst (v := 1) hκ dL_law_511 rfl ?_
      refine ab_iadd hκ dL_law_512 ?_
      refine ab_sld hκ hX dL_law_513 ?_
      refine ab_aload_n hκ dL_law_514 rfl ?_
      refine ab_iload_n hκ dL_law_515 rfl ?_
      refine ab_iconst (v := 2) hκ dL_law_516 rfl ?_
      refine ab_iadd hκ dL_law_517 ?_
      refine ab_sld hκ hX dL_law_518 ?_
      refine ab_cVi (vs := [.int (xs (sy_ix (x1 + 1))), .int (xs (sy_ix (x1 + 2)))]) (st := []) hκ dL_law_519 kl_RL_64 ki_X6_takes kv_X6_takes (sy_o6 rfl) rfl rfl (m6_takes_ok (xs (sy_ix (x1 + 1))) (xs (sy_ix (x1 + 2))) σ) rfl (by decide) (Nat.le_of_ble_eq_true rfl) rfl (fun r51 σ50 => ?_)
      refine ab_aload_n hκ dL_law_522 rfl ?_
      refine ab_aload_n hκ dL_law_523 rfl ?_
      refine ab_iload_n hκ dL_law_524 rfl ?_
      refine ab_iconst (v := 1) hκ dL_law_525 rfl ?_
      refine ab_iadd hκ dL_law_526 ?_
      refine ab_sld hκ hX dL_law_527 ?_
      refine ab_aload_n hκ dL_law_528 rfl ?_
      refine ab_iload_n hκ dL_law_529 rfl ?_
      refine ab_iconst (v := 2) hκ dL_law_530 rfl ?_
      refine ab_iadd hκ dL_law_531 ?_
      refine ab_sld hκ hX dL_law_532 ?_
      refine ab_cVi (vs := [.int (xs (sy_ix (x1 + 1))), .int (xs (sy_ix (x1 + 2)))]) (st := [.int r51]) hκ dL_law_533 kl_RL_67 ki_X7_takes kv_X7_takes (sy_o7 rfl) rfl rfl (m7_takes_ok (xs (sy_ix (x1 + 1))) (xs (sy_ix (x1 + 2))) σ50) rfl (by decide) (Nat.le_of_ble_eq_true rfl) rfl (fun r53 σ52 => ?_)
      refine ab_icmp_eq (tgt := 1182) hκ dL_law_536 rfl ?_ ?_
      · refine ab_iinc (v := (x1 + 6)) (lv' := [sy_vr 81, sy_vr 0, sy_vr 61, sy_vi (x1 + 6)]) hκ dL_law_1182 rfl rfl (by decide) rfl ?_
        refine ab_goto (tgt := 18) hκ dL_law_1185 rfl ?_
        exact hK18 (x1 + 6) σ52
      · refine ab_iconst (v := 0) hκ dL_law_539 rfl ?_
        exact ab_zret hκ dL_law_540
    · refine ab_aload_n hκ dL_law_541 rfl ?_
      refine ab_aload_n hκ dL_law_542 rfl ?_
      refine ab_iload_n hκ dL_law_543 rfl ?_
      refine ab_iconst (v := 1) hκ dL_law_544 rfl ?_
      refine ab_iadd hκ dL_law_545 ?_
      refine ab_sld hκ hX dL_law_546 ?_
      refine ab_cVi (vs := [.int (xs (sy_ix (x1 + 1)))]) (st := []) hκ dL_law_547 kl_RL_68 ki_X6_sum kv_X6_sum (sy_o6 rfl) rfl rfl (m6_sum_ok (xs (sy_ix (x1 + 1))) σ) rfl (by decide) (Nat.le_of_ble_eq_true rfl) rfl (fun r55 σ54 => ?_)
      refine ab_aload_n hκ dL_law_550 rfl ?_
      refine ab_aload_n hκ dL_law_551 rfl ?_
      refine ab_iload_n hκ dL_law_552 rfl ?_
      refine ab_iconst (v := 1) hκ dL_law_553 rfl ?_
      refine ab_iadd hκ dL_law_554 ?_
      refine ab_sld hκ hX dL_law_555 ?_
      refine ab_cVi (vs := [.int (xs (sy_ix (x1 + 1)))]) (st := [.int r55]) hκ dL_law_556 kl_RL_71 ki_X7_sum kv_X7_sum (sy_o7 rfl) rfl rfl (m7_sum_ok (xs (sy_ix (x1 + 1))) σ54) rfl (by decide) (Nat.le_of_ble_eq_true rfl) rfl (fun r57 σ56 => ?_)
      refine ab_icmp_eq (tgt := 1182) hκ dL_law_559 rfl ?_ ?_
      · refine ab_iinc (v := (x1 + 6)) (lv' := [sy_vr 81, sy_vr 0, sy_vr 61, sy_vi (x1 + 6)]) hκ dL_law_1182 rfl rfl (by decide) rfl ?_
        refine ab_goto (tgt := 18) hκ dL_law_1185 rfl ?_
        exact hK18 (x1 + 6) σ56
      · refine ab_iconst (v := 0) hκ dL_law_562 rfl ?_
        exact ab_zret hκ dL_law_563
    · refine ab_aload_n hκ dL_law_564 rfl ?_
      refine ab_cVi (vs := []) (st := []) hκ dL_law_565 kl_RL_72 ki_X6_flat kv_X6_flat (sy_o6 rfl) rfl rfl (m6_flat_ok σ) rfl (by decide) (Nat.le_of_ble_eq_true rfl) rfl (fun r59 σ58 => ?_)
      refine ab_aload_n hκ dL_law_568 rfl ?_
      refine ab_cVi (vs := []) (st := [.int r59]) hκ dL_law_569 kl_RL_75 ki_X7_flat kv_X7_flat (sy_o7 rfl) rfl rfl (m7_flat_ok σ58) rfl (by decide) (Nat.le_of_ble_eq_true rfl) rfl (fun r61 σ60 => ?_)
      refine ab_icmp_eq (tgt := 1182) hκ dL_law_572 rfl ?_ ?_
      · refine ab_iinc (v := (x1 + 6)) (lv' := [sy_vr 81, sy_vr 0, sy_vr 61, sy_vi (x1 + 6)]) hκ dL_law_1182 rfl rfl (by decide) rfl ?_
        refine ab_goto (tgt := 18) hκ dL_law_1185 rfl ?_
        exact hK18 (x1 + 6) σ60
      · refine ab_iconst (v := 0) hκ dL_law_575 rfl ?_
        exact ab_zret hκ dL_law_576
    · refine ab_aload_n hκ dL_law_577 rfl ?_
      refine ab_cVi (vs := []) (st := []) hκ dL_law_578 kl_RL_76 ki_X6_silent kv_X6_silent (sy_o6 rfl) rfl rfl (m6_silent_ok σ) rfl (by decide) (Nat.le_of_ble_eq_true rfl) rfl (fun r63 σ62 => ?_)
      refine ab_aload_n hκ dL_law_581 rfl ?_
      refine ab_cVi (vs := []) (st := [.int r63]) hκ dL_law_582 kl_RL_79 ki_X7_silent kv_X7_silent (sy_o7 rfl) rfl rfl (m7_silent_ok σ62) rfl (by decide) (Nat.le_of_ble_eq_true rfl) rfl (fun r65 σ64 => ?_)
      refine ab_icmp_eq (tgt := 1182) hκ dL_law_585 rfl ?_ ?_
      · refine ab_iinc (v := (x1 + 6)) (lv' := [sy_vr 81, sy_vr 0, sy_vr 61, sy_vi (x1 + 6)]) hκ dL_law_1182 rfl rfl (by decide) rfl ?_
        refine ab_goto (tgt := 18) hκ dL_law_1185 rfl ?_
        exact hK18 (x1 + 6) σ64
      · refine ab_iconst (v := 0) hκ dL_law_588 rfl ?_
        exact ab_zret hκ dL_law_589
    · refine ab_aload_n hκ dL_law_590 rfl ?_
      refine ab_cVi (vs := []) (st := []) hκ dL_law_591 kl_RL_80 ki_X6_greedy kv_X6_greedy (sy_o6 rfl) rfl rfl (m6_greedy_ok σ) rfl (by decide) (Nat.le_of_ble_eq_true rfl) rfl (fun r67 σ66 => ?_)
      refine ab_aload_n hκ dL_law_594 rfl ?_
      refine ab_cVi (vs := []) (st := [.int r67]) hκ dL_law_595 kl_RL_83 ki_X7_greedy kv_X7_greedy (sy_o7 rfl) rfl rfl (m7_greedy_ok σ66) rfl (by decide) (Nat.le_of_ble_eq_true rfl) rfl (fun r69 σ68 => ?_)
      refine ab_icmp_eq (tgt := 1182) hκ dL_law_598 rfl ?_ ?_
      · refine ab_iinc (v := (x1 + 6)) (lv' := [sy_vr 81, sy_vr 0, sy_vr 61, sy_vi (x1 + 6)]) hκ dL_law_1182 rfl rfl (by decide) rfl ?_
        refine ab_goto (tgt := 18) hκ dL_law_1185 rfl ?_
        exact hK18 (x1 + 6) σ68
      · refine ab_iconst (v := 0) hκ dL_law_601 rfl ?_
        exact ab_zret hκ dL_law_602
    · refine ab_aload_n hκ dL_law_603 rfl ?_
      refine ab_aload_n hκ dL_law_604 rfl ?_
      refine ab_iload_n hκ dL_law_605 rfl ?_
      refine ab_iconst (v := 1) hκ dL_law_606 rfl ?_
      refine ab_iadd hκ dL_law_607 ?_
      refine ab_sld hκ hX dL_law_608 ?_
      refine ab_cVi (vs := [.int (xs (sy_ix (x1 + 1)))]) (st := []) hκ dL_law_609 kl_RL_84 ki_X6_fill kv_X6_fill (sy_o6 rfl) rfl rfl (m6_fill_ok (xs (sy_ix (x1 + 1))) σ) rfl (by decide) (Nat.le_of_ble_eq_true rfl) rfl (fun r71 σ70 => ?_)
      refine ab_aload_n hκ dL_law_612 rfl ?_
      refine ab_aload_n hκ dL_law_613 rfl ?_
      refine ab_iload_n hκ dL_law_614 rfl ?_
      refine ab_iconst (v := 1) hκ dL_law_615 rfl ?_
      refine ab_iadd hκ dL_law_616 ?_
      refine ab_sld hκ hX dL_law_617 ?_
      refine ab_cVi (vs := [.int (xs (sy_ix (x1 + 1)))]) (st := [.int r71]) hκ dL_law_618 kl_RL_87 ki_X7_fill kv_X7_fill (sy_o7 rfl) rfl rfl (m7_fill_ok (xs (sy_ix (x1 + 1))) σ70) rfl (by decide) (Nat.le_of_ble_eq_true rfl) rfl (fun r73 σ72 => ?_)
      refine ab_icmp_eq (tgt := 1182) hκ dL_law_621 rfl ?_ ?_
      · refine ab_iinc (v := (x1 + 6)) (lv' := [sy_vr 81, sy_vr 0, sy_vr 61, sy_vi (x1 + 6)]) hκ dL_law_1182 rfl rfl (by decide) rfl ?_
        refine ab_goto (tgt := 18) hκ dL_law_1185 rfl ?_
        exact hK18 (x1 + 6) σ72
      · refine ab_iconst (v := 0) hκ dL_law_624 rfl ?_
        exact ab_zret hκ dL_law_625
    · refine ab_aload_n hκ dL_law_626 rfl ?_
      refine ab_aload_n hκ dL_law_627 rfl ?_
      refine ab_iload_n hκ dL_law_628 rfl ?_
      refine ab_iconst (v := 1) hκ dL_law_629 rfl ?_
      refine ab_iadd hκ dL_law_630 ?_
      refine ab_sld hκ hX dL_law_631 ?_
      refine ab_cVi (vs := [.int (xs (sy_ix (x1 + 1)))]) (st := []) hκ dL_law_632 kl_RL_88 ki_X6_swap kv_X6_swap (sy_o6 rfl) rfl rfl (m6_swap_ok (xs (sy_ix (x1 + 1))) σ) rfl (by decide) (Nat.le_of_ble_eq_true rfl) rfl (fun r75 σ74 => ?_)
      refine ab_aload_n hκ dL_law_635 rfl ?_
      refine ab_aload_n hκ dL_law_636 rfl ?_
      refine ab_iload_n hκ dL_law_637 rfl ?_
      refine ab_iconst (v := 1) hκ dL_law_638 rfl ?_
      refine ab_iadd hκ dL_law_639 ?_
      refine ab_sld hκ hX dL_law_640 ?_
      refine ab_cVi (vs := [.int (xs (sy_ix (x1 + 1)))]) (st := [.int r75]) hκ dL_law_641 kl_RL_91 ki_X7_swap kv_X7_swap (sy_o7 rfl) rfl rfl (m7_swap_ok (xs (sy_ix (x1 + 1))) σ74) rfl (by decide) (Nat.le_of_ble_eq_true rfl) rfl (fun r77 σ76 => ?_)
      refine ab_icmp_eq (tgt := 1182) hκ dL_law_644 rfl ?_ ?_
      · refine ab_iinc (v := (x1 + 6)) (lv' := [sy_vr 81, sy_vr 0, sy_vr 61, sy_vi (x1 + 6)]) hκ dL_law_1182 rfl rfl (by decide) rfl ?_
        refine ab_goto (tgt := 18) hκ dL_law_1185 rfl ?_
        exact hK18 (x1 + 6) σ76
      · refine ab_iconst (v := 0) hκ dL_law_647 rfl ?_
        exact ab_zret hκ dL_law_648
    · refine ab_aload_n hκ dL_law_649 rfl ?_
      refine ab_aload_n hκ dL_law_650 rfl ?_
      refine ab_iload_n hκ dL_law_651 rfl ?_
      refine ab_iconst (v := 1) hκ dL_law_652 rfl ?_
      refine ab_iadd hκ dL_law_653 ?_
      refine ab_sld hκ hX dL_law_654 ?_
      refine ab_cVi (vs := [.int (xs (sy_ix (x1 + 1)))]) (st := []) hκ dL_law_655 kl_RL_92 ki_X6_hold kv_X6_hold (sy_o6 rfl) rfl rfl (m6_hold_ok (xs (sy_ix (x1 + 1))) σ) rfl (by decide) (Nat.le_of_ble_eq_true rfl) rfl (fun r79 σ78 => ?_)
      refine ab_aload_n hκ dL_law_658 rfl ?_
      refine ab_aload_n hκ dL_law_659 rfl ?_
      refine ab_iload_n hκ dL_law_660 rfl ?_
      refine ab_iconst (v := 1) hκ dL_law_661 rfl ?_
      refine ab_iadd hκ dL_law_662 ?_
      refine ab_sld hκ hX dL_law_663 ?_
      refine ab_cVi (vs := [.int (xs (sy_ix (x1 + 1)))]) (st := [.int r79]) hκ dL_law_664 kl_RL_95 ki_X7_hold kv_X7_hold (sy_o7 rfl) rfl rfl (m7_hold_ok (xs (sy_ix (x1 + 1))) σ78) rfl (by decide) (Nat.le_of_ble_eq_true rfl) rfl (fun r81 σ80 => ?_)
      refine ab_icmp_eq (tgt := 1182) hκ dL_law_667 rfl ?_ ?_
      · refine ab_iinc (v := (x1 + 6)) (lv' := [sy_vr 81, sy_vr 0, sy_vr 61, sy_vi (x1 + 6)]) hκ dL_law_1182 rfl rfl (by decide) rfl ?_
        refine ab_goto (tgt := 18) hκ dL_law_1185 rfl ?_
        exact hK18 (x1 + 6) σ80
      · refine ab_iconst (v := 0) hκ dL_law_670 rfl ?_
        exact ab_zret hκ dL_law_671
    · refine ab_aload_n hκ dL_law_672 rfl ?_
      refine ab_aload_n hκ dL_law_673 rfl ?_
      refine ab_iload_n hκ dL_law_674 rfl ?_
      refine ab_iconst (v := 1) hκ dL_law_675 rfl ?_
      refine ab_iadd hκ dL_law_676 ?_
      refine ab_sld hκ hX dL_law_677 ?_
      refine ab_cVi (vs := [.int (xs (sy_ix (x1 + 1)))]) (st := []) hκ dL_law_678 kl_RL_96 ki_X6_spare kv_X6_spare (sy_o6 rfl) rfl rfl (m6_spare_ok (xs (sy_ix (x1 + 1))) σ) rfl (by decide) (Nat.le_of_ble_eq_true rfl) rfl (fun r83 σ82 => ?_)
      refine ab_aload_n hκ dL_law_681 rfl ?_
      refine ab_aload_n hκ dL_law_682 rfl ?_
      refine ab_iload_n hκ dL_law_683 rfl ?_
      refine ab_iconst (v := 1) hκ dL_law_684 rfl ?_
      refine ab_iadd hκ dL_law_685 ?_
      refine ab_sld hκ hX dL_law_686 ?_
      refine ab_cVi (vs := [.int (xs (sy_ix (x1 + 1)))]) (st := [.int r83]) hκ dL_law_687 kl_RL_99 ki_X7_spare kv_X7_spare (sy_o7 rfl) rfl rfl (m7_spare_ok (xs (sy_ix (x1 + 1))) σ82) rfl (by decide) (Nat.le_of_ble_eq_true rfl) rfl (fun r85 σ84 => ?_)
      refine ab_icmp_eq (tgt := 1182) hκ dL_law_690 rfl ?_ ?_
      · refine ab_iinc (v := (x1 + 6)) (lv' := [sy_vr 81, sy_vr 0, sy_vr 61, sy_vi (x1 + 6)]) hκ dL_law_1182 rfl rfl (by decide) rfl ?_
        refine ab_goto (tgt := 18) hκ dL_law_1185 rfl ?_
        exact hK18 (x1 + 6) σ84
      · refine ab_iconst (v := 0) hκ dL_law_693 rfl ?_
        exact ab_zret hκ dL_law_694
    · refine ab_aload_n hκ dL_law_695 rfl ?_
      refine ab_aload_n hκ dL_law_696 rfl ?_
      refine ab_iload_n hκ dL_law_697 rfl ?_
      refine ab_iconst (v := 1) hκ dL_law_698 rfl ?_
      refine ab_iadd hκ dL_law_699 ?_
      refine ab_sld hκ hX dL_law_700 ?_
      refine ab_aload_n hκ dL_law_701 rfl ?_
      refine ab_iload_n hκ dL_law_702 rfl ?_
      refine ab_iconst (v := 2) hκ dL_law_703 rfl ?_
      refine ab_iadd hκ dL_law_704 ?_
      refine ab_sld hκ hX dL_law_705 ?_
      refine ab_cVi (vs := [.int (xs (sy_ix (x1 + 1))), .int (xs (sy_ix (x1 + 2)))]) (st := []) hκ dL_law_706 kl_RL_100 ki_X6_hear kv_X6_hear (sy_o6 rfl) rfl rfl (m6_hear_ok (xs (sy_ix (x1 + 1))) (xs (sy_ix (x1 + 2))) σ) rfl (by decide) (Nat.le_of_ble_eq_true rfl) rfl (fun r87 σ86 => ?_)
      refine ab_aload_n hκ dL_law_709 rfl ?_
      refine ab_aload_n hκ dL_law_710 rfl ?_
      refine ab_iload_n hκ dL_law_711 rfl ?_
      refine ab_iconst (v := 1) hκ dL_law_712 rfl ?_
      refine ab_iadd hκ dL_law_713 ?_
      refine ab_sld hκ hX dL_law_714 ?_
      refine ab_aload_n hκ dL_law_715 rfl ?_
      refine ab_iload_n hκ dL_law_716 rfl ?_
      refine ab_iconst (v := 2) hκ dL_law_717 rfl ?_
      refine ab_iadd hκ dL_law_718 ?_
      refine ab_sld hκ hX dL_law_719 ?_
      refine ab_cVi (vs := [.int (xs (sy_ix (x1 + 1))), .int (xs (sy_ix (x1 + 2)))]) (st := [.int r87]) hκ dL_law_720 kl_RL_103 ki_X7_hear kv_X7_hear (sy_o7 rfl) rfl rfl (m7_hear_ok (xs (sy_ix (x1 + 1))) (xs (sy_ix (x1 + 2))) σ86) rfl (by decide) (Nat.le_of_ble_eq_true rfl) rfl (fun r89 σ88 => ?_)
      refine ab_icmp_eq (tgt := 1182) hκ dL_law_723 rfl ?_ ?_
      · refine ab_iinc (v := (x1 + 6)) (lv' := [sy_vr 81, sy_vr 0, sy_vr 61, sy_vi (x1 + 6)]) hκ dL_law_1182 rfl rfl (by decide) rfl ?_
        refine ab_goto (tgt := 18) hκ dL_law_1185 rfl ?_
        exact hK18 (x1 + 6) σ88
      · refine ab_iconst (v := 0) hκ dL_law_726 rfl ?_
        exact ab_zret hκ dL_law_727
    · refine ab_aload_n hκ dL_law_728 rfl ?_
      refine ab_cVi (vs := []) (st := []) hκ dL_law_729 kl_RL_104 ki_X6_forget kv_X6_forget (sy_o6 rfl) rfl rfl (m6_forget_ok σ) rfl (by decide) (Nat.le_of_ble_eq_true rfl) rfl (fun r91 σ90 => ?_)
      refine ab_aload_n hκ dL_law_732 rfl ?_
      refine ab_cVi (vs := []) (st := [.int r91]) hκ dL_law_733 kl_RL_107 ki_X7_forget kv_X7_forget (sy_o7 rfl) rfl rfl (m7_forget_ok σ90) rfl (by decide) (Nat.le_of_ble_eq_true rfl) rfl (fun r93 σ92 => ?_)
      refine ab_icmp_eq (tgt := 1182) hκ dL_law_736 rfl ?_ ?_
      · refine ab_iinc (v := (x1 + 6)) (lv' := [sy_vr 81, sy_vr 0, sy_vr 61, sy_vi (x1 + 6)]) hκ dL_law_1182 rfl rfl (by decide) rfl ?_
        refine ab_goto (tgt := 18) hκ dL_law_1185 rfl ?_
        exact hK18 (x1 + 6) σ92
      · refine ab_iconst (v := 0) hκ dL_law_739 rfl ?_
        exact ab_zret hκ dL_law_740
    · refine ab_aload_n hκ dL_law_741 rfl ?_
      refine ab_cVi (vs := []) (st := []) hκ dL_law_742 kl_RL_108 ki_X6_never kv_X6_never (sy_o6 rfl) rfl rfl (m6_never_ok σ) rfl (by decide) (Nat.le_of_ble_eq_true rfl) rfl (fun r95 σ94 => ?_)
      refine ab_aload_n hκ dL_law_745 rfl ?_
      refine ab_cVi (vs := []) (st := [.int r95]) hκ dL_law_746 kl_RL_111 ki_X7_never kv_X7_never (sy_o7 rfl) rfl rfl (m7_never_ok σ94) rfl (by decide) (Nat.le_of_ble_eq_true rfl) rfl (fun r97 σ96 => ?_)
      refine ab_icmp_eq (tgt := 1182) hκ dL_law_749 rfl ?_ ?_
      · refine ab_iinc (v := (x1 + 6)) (lv' := [sy_vr 81, sy_vr 0, sy_vr 61, sy_vi (x1 + 6)]) hκ dL_law_1182 rfl rfl (by decide) rfl ?_
        refine ab_goto (tgt := 18) hκ dL_law_1185 rfl ?_
        exact hK18 (x1 + 6) σ96
      · refine ab_iconst (v := 0) hκ dL_law_752 rfl ?_
        exact ab_zret hκ dL_law_753
    · refine ab_aload_n hκ dL_law_754 rfl ?_
      refine ab_aload_n hκ dL_law_755 rfl ?_
      refine ab_iload_n hκ dL_law_756 rfl ?_
      refine ab_iconst (v := 1) hκ dL_law_757 rfl ?_
      refine ab_iadd hκ dL_law_758 ?_
      refine ab_sld hκ hX dL_law_759 ?_
      refine ab_aload_n hκ dL_law_760 rfl ?_
      refine ab_iload_n hκ dL_law_761 rfl ?_
      refine ab_iconst (v := 2) hκ dL_law_762 rfl ?_
      refine ab_iadd hκ dL_law_763 ?_
      refine ab_sld hκ hX dL_law_764 ?_
      refine ab_cVi (vs := [.int (xs (sy_ix (x1 + 1))), .int (xs (sy_ix (x1 + 2)))]) (st := []) hκ dL_law_765 kl_RL_112 ki_X6_was kv_X6_was (sy_o6 rfl) rfl rfl (m6_was_ok (xs (sy_ix (x1 + 1))) (xs (sy_ix (x1 + 2))) σ) rfl (by decide) (Nat.le_of_ble_eq_true rfl) rfl (fun r99 σ98 => ?_)
      refine ab_aload_n hκ dL_law_768 rfl ?_
      refine ab_aload_n hκ dL_law_769 rfl ?_
      refine ab_iload_n hκ dL_law_770 rfl ?_
      refine ab_iconst (v := 1) hκ dL_law_771 rfl ?_
      refine ab_iadd hκ dL_law_772 ?_
      refine ab_sld hκ hX dL_law_773 ?_
      refine ab_aload_n hκ dL_law_774 rfl ?_
      refine ab_iload_n hκ dL_law_775 rfl ?_
      refine ab_iconst (v := 2) hκ dL_law_776 rfl ?_
      refine ab_iadd hκ dL_law_777 ?_
      refine ab_sld hκ hX dL_law_778 ?_
      refine ab_cVi (vs := [.int (xs (sy_ix (x1 + 1))), .int (xs (sy_ix (x1 + 2)))]) (st := [.int r99]) hκ dL_law_779 kl_RL_115 ki_X7_was kv_X7_was (sy_o7 rfl) rfl rfl (m7_was_ok (xs (sy_ix (x1 + 1))) (xs (sy_ix (x1 + 2))) σ98) rfl (by decide) (Nat.le_of_ble_eq_true rfl) rfl (fun r101 σ100 => ?_)
      refine ab_icmp_eq (tgt := 1182) hκ dL_law_782 rfl ?_ ?_
      · refine ab_iinc (v := (x1 + 6)) (lv' := [sy_vr 81, sy_vr 0, sy_vr 61, sy_vi (x1 + 6)]) hκ dL_law_1182 rfl rfl (by decide) rfl ?_
        refine ab_goto (tgt := 18) hκ dL_law_1185 rfl ?_
        exact hK18 (x1 + 6) σ100
      · refine ab_iconst (v := 0) hκ dL_law_785 rfl ?_
        exact ab_zret hκ dL_law_786
    · refine ab_aload_n hκ dL_law_787 rfl ?_
      refine ab_aload_n hκ dL_law_788 rfl ?_
      refine ab_iload_n hκ dL_law_789 rfl ?_
      refine ab_iconst (v := 1) hκ dL_law_790 rfl ?_
      refine ab_iadd hκ dL_law_791 ?_
      refine ab_sld hκ hX dL_law_792 ?_
      refine ab_cVi (vs := [.int (xs (sy_ix (x1 + 1)))]) (st := []) hκ dL_law_793 kl_RL_116 ki_X6_ask kv_X6_ask (sy_o6 rfl) rfl rfl (m6_ask_ok (xs (sy_ix (x1 + 1))) σ) rfl (by decide) (Nat.le_of_ble_eq_true rfl) rfl (fun r103 σ102 => ?_)
      refine ab_aload_n hκ dL_law_796 rfl ?_
      refine ab_aload_n hκ dL_law_797 rfl ?_
      refine ab_iload_n hκ dL_law_798 rfl ?_
      refine ab_iconst (v := 1) hκ dL_law_799 rfl ?_
      refine ab_iadd hκ dL_law_800 ?_
      refine ab_sld hκ hX dL_law_801 ?_
      refine ab_cVi (vs := [.int (xs (sy_ix (x1 + 1)))]) (st := [.int r103]) hκ dL_law_802 kl_RL_119 ki_X7_ask kv_X7_ask (sy_o7 rfl) rfl rfl (m7_ask_ok (xs (sy_ix (x1 + 1))) σ102) rfl (by decide) (Nat.le_of_ble_eq_true rfl) rfl (fun r105 σ104 => ?_)
      refine ab_icmp_eq (tgt := 1182) hκ dL_law_805 rfl ?_ ?_
      · refine ab_iinc (v := (x1 + 6)) (lv' := [sy_vr 81, sy_vr 0, sy_vr 61, sy_vi (x1 + 6)]) hκ dL_law_1182 rfl rfl (by decide) rfl ?_
        refine ab_goto (tgt := 18) hκ dL_law_1185 rfl ?_
        exact hK18 (x1 + 6) σ104
      · refine ab_iconst (v := 0) hκ dL_law_808 rfl ?_
        exact ab_zret hκ dL_law_809
    · refine ab_aload_n hκ dL_law_810 rfl ?_
      refine ab_aload_n hκ dL_law_811 rfl ?_
      refine ab_iload_n hκ dL_law_812 rfl ?_
      refine ab_iconst (v := 1) hκ dL_law_813 rfl ?_
      refine ab_iadd hκ dL_law_814 ?_
      refine ab_sld hκ hX dL_law_815 ?_
      refine ab_aload_n hκ dL_law_816 rfl ?_
      refine ab_iload_n hκ dL_law_817 rfl ?_
      refine ab_iconst (v := 2) hκ dL_law_818 rfl ?_
      refine ab_iadd hκ dL_law_819 ?_
      refine ab_sld hκ hX dL_law_820 ?_
      refine ab_aload_n hκ dL_law_821 rfl ?_
      refine ab_iload_n hκ dL_law_822 rfl ?_
      refine ab_iconst (v := 3) hκ dL_law_823 rfl ?_
      refine ab_iadd hκ dL_law_824 ?_
      refine ab_sld hκ hX dL_law_825 ?_
      refine ab_cVl (vs := [.int (xs (sy_ix (x1 + 1))), .int (xs (sy_ix (x1 + 2))), .int (xs (sy_ix (x1 + 3)))]) (st := []) hκ dL_law_826 kl_RL_120 ki_X6_chance kv_X6_chance (sy_o6 rfl) rfl rfl (m6_chance_ok (xs (sy_ix (x1 + 1))) (xs (sy_ix (x1 + 2))) (xs (sy_ix (x1 + 3))) σ) rfl (by decide) (Nat.le_of_ble_eq_true rfl) rfl (fun r107 σ106 => ?_)
      refine ab_aload_n hκ dL_law_829 rfl ?_
      refine ab_aload_n hκ dL_law_830 rfl ?_
      refine ab_iload_n hκ dL_law_831 rfl ?_
      refine ab_iconst (v := 1) hκ dL_law_832 rfl ?_
      refine ab_iadd hκ dL_law_833 ?_
      refine ab_sld hκ hX dL_law_834 ?_
      refine ab_aload_n hκ dL_law_835 rfl ?_
      refine ab_iload_n hκ dL_law_836 rfl ?_
      refine ab_iconst (v := 2) hκ dL_law_837 rfl ?_
      refine ab_iadd hκ dL_law_838 ?_
      refine ab_sld hκ hX dL_law_839 ?_
      refine ab_aload_n hκ dL_law_840 rfl ?_
      refine ab_iload_n hκ dL_law_841 rfl ?_
      refine ab_iconst (v := 3) hκ dL_law_842 rfl ?_
      refine ab_iadd hκ dL_law_843 ?_
      refine ab_sld hκ hX dL_law_844 ?_
      refine ab_cVl (vs := [.int (xs (sy_ix (x1 + 1))), .int (xs (sy_ix (x1 + 2))), .int (xs (sy_ix (x1 + 3)))]) (st := [.long r107]) hκ dL_law_845 kl_RL_124 ki_X7_chance kv_X7_chance (sy_o7 rfl) rfl rfl (m7_chance_ok (xs (sy_ix (x1 + 1))) (xs (sy_ix (x1 + 2))) (xs (sy_ix (x1 + 3))) σ106) rfl (by decide) (Nat.le_of_ble_eq_true rfl) rfl (fun r109 σ108 => ?_)
      refine ab_lcmp hκ dL_law_848 ?_
      refine ab_if_eq (tgt := 1182) hκ dL_law_849 rfl ?_ ?_
      · refine ab_iinc (v := (x1 + 6)) (lv' := [sy_vr 81, sy_vr 0, sy_vr 61, sy_vi (x1 + 6)]) hκ dL_law_1182 rfl rfl (by decide) rfl ?_
        refine ab_goto (tgt := 18) hκ dL_law_1185 rfl ?_
        exact hK18 (x1 + 6) σ108
      · refine ab_iconst (v := 0) hκ dL_law_852 rfl ?_
        exact ab_zret hκ dL_law_853
    · refine ab_aload_n hκ dL_law_854 rfl ?_
      refine ab_aload_n hκ dL_law_855 rfl ?_
      refine ab_iload_n hκ dL_law_856 rfl ?_
      refine ab_iconst (v := 1) hκ dL_law_857 rfl ?_
      refine ab_iadd hκ dL_law_858 ?_
      refine ab_sld hκ hX dL_law_859 ?_
      refine ab_aload_n hκ dL_law_860 rfl ?_
      refine ab_iload_n hκ dL_law_861 rfl ?_
      refine ab_iconst (v := 2) hκ dL_law_862 rfl ?_
      refine ab_iadd hκ dL_law_863 ?_
      refine ab_sld hκ hX dL_law_864 ?_
      refine ab_aload_n hκ dL_law_865 rfl ?_
      refine ab_iload_n hκ dL_law_866 rfl ?_
      refine ab_iconst (v := 3) hκ dL_law_867 rfl ?_
      refine ab_iadd hκ dL_law_868 ?_
      refine ab_sld hκ hX dL_law_869 ?_
      refine ab_cVi (vs := [.int (xs (sy_ix (x1 + 1))), .int (xs (sy_ix (x1 + 2))), .int (xs (sy_ix (x1 + 3)))]) (st := []) hκ dL_law_870 kl_RL_125 ki_X6_years kv_X6_years (sy_o6 rfl) rfl rfl (m6_years_ok (xs (sy_ix (x1 + 1))) (xs (sy_ix (x1 + 2))) (xs (sy_ix (x1 + 3))) σ) rfl (by decide) (Nat.le_of_ble_eq_true rfl) rfl (fun r111 σ110 => ?_)
      refine ab_aload_n hκ dL_law_873 rfl ?_
      refine ab_aload_n hκ dL_law_874 rfl ?_
      refine ab_iload_n hκ dL_law_875 rfl ?_
      refine ab_iconst (v := 1) hκ dL_law_876 rfl ?_
      refine ab_iadd hκ dL_law_877 ?_
      refine ab_sld hκ hX dL_law_878 ?_
      refine ab_aload_n hκ dL_law_879 rfl ?_
      refine ab_iload_n hκ dL_law_880 rfl ?_
      refine ab_iconst (v := 2) hκ dL_law_881 rfl ?_
      refine ab_iadd hκ dL_law_882 ?_
      refine ab_sld hκ hX dL_law_883 ?_
      refine ab_aload_n hκ dL_law_884 rfl ?_
      refine ab_iload_n hκ dL_law_885 rfl ?_
      refine ab_iconst (v := 3) hκ dL_law_886 rfl ?_
      refine ab_iadd hκ dL_law_887 ?_
      refine ab_sld hκ hX dL_law_888 ?_
      refine ab_cVi (vs := [.int (xs (sy_ix (x1 + 1))), .int (xs (sy_ix (x1 + 2))), .int (xs (sy_ix (x1 + 3)))]) (st := [.int r111]) hκ dL_law_889 kl_RL_129 ki_X7_years kv_X7_years (sy_o7 rfl) rfl rfl (m7_years_ok (xs (sy_ix (x1 + 1))) (xs (sy_ix (x1 + 2))) (xs (sy_ix (x1 + 3))) σ110) rfl (by decide) (Nat.le_of_ble_eq_true rfl) rfl (fun r113 σ112 => ?_)
      refine ab_icmp_eq (tgt := 1182) hκ dL_law_892 rfl ?_ ?_
      · refine ab_iinc (v := (x1 + 6)) (lv' := [sy_vr 81, sy_vr 0, sy_vr 61, sy_vi (x1 + 6)]) hκ dL_law_1182 rfl rfl (by decide) rfl ?_
        refine ab_goto (tgt := 18) hκ dL_law_1185 rfl ?_
        exact hK18 (x1 + 6) σ112
      · refine ab_iconst (v := 0) hκ dL_law_895 rfl ?_
        exact ab_zret hκ dL_law_896
    · refine ab_aload_n hκ dL_law_897 rfl ?_
      refine ab_aload_n hκ dL_law_898 rfl ?_
      refine ab_iload_n hκ dL_law_899 rfl ?_
      refine ab_iconst (v := 1) hκ dL_law_900 rfl ?_
      refine ab_iadd hκ dL_law_901 ?_
      refine ab_sld hκ hX dL_law_902 ?_
      refine ab_aload_n hκ dL_law_903 rfl ?_
      refine ab_iload_n hκ dL_law_904 rfl ?_
      refine ab_iconst (v := 2) hκ dL_law_905 rfl ?_
      refine ab_iadd hκ dL_law_906 ?_
      refine ab_sld hκ hX dL_law_907 ?_
      refine ab_aload_n hκ dL_law_908 rfl ?_
      refine ab_iload_n hκ dL_law_909 rfl ?_
      refine ab_iconst (v := 3) hκ dL_law_910 rfl ?_
      refine ab_iadd hκ dL_law_911 ?_
      refine ab_sld hκ hX dL_law_912 ?_
      refine ab_cVi (vs := [.int (xs (sy_ix (x1 + 1))), .int (xs (sy_ix (x1 + 2))), .int (xs (sy_ix (x1 + 3)))]) (st := []) hκ dL_law_913 kl_RL_130 ki_X6_sheet kv_X6_sheet (sy_o6 rfl) rfl rfl (m6_sheet_ok (xs (sy_ix (x1 + 1))) (xs (sy_ix (x1 + 2))) (xs (sy_ix (x1 + 3))) σ) rfl (by decide) (Nat.le_of_ble_eq_true rfl) rfl (fun r115 σ114 => ?_)
      refine ab_aload_n hκ dL_law_916 rfl ?_
      refine ab_aload_n hκ dL_law_917 rfl ?_
      refine ab_iload_n hκ dL_law_918 rfl ?_
      refine ab_iconst (v := 1) hκ dL_law_919 rfl ?_
      refine ab_iadd hκ dL_law_920 ?_
      refine ab_sld hκ hX dL_law_921 ?_
      refine ab_aload_n hκ dL_law_922 rfl ?_
      refine ab_iload_n hκ dL_law_923 rfl ?_
      refine ab_iconst (v := 2) hκ dL_law_924 rfl ?_
      refine ab_iadd hκ dL_law_925 ?_
      refine ab_sld hκ hX dL_law_926 ?_
      refine ab_aload_n hκ dL_law_927 rfl ?_
      refine ab_iload_n hκ dL_law_928 rfl ?_
      refine ab_iconst (v := 3) hκ dL_law_929 rfl ?_
      refine ab_iadd hκ dL_law_930 ?_
      refine ab_sld hκ hX dL_law_931 ?_
      refine ab_cVi (vs := [.int (xs (sy_ix (x1 + 1))), .int (xs (sy_ix (x1 + 2))), .int (xs (sy_ix (x1 + 3)))]) (st := [.int r115]) hκ dL_law_932 kl_RL_133 ki_X7_sheet kv_X7_sheet (sy_o7 rfl) rfl rfl (m7_sheet_ok (xs (sy_ix (x1 + 1))) (xs (sy_ix (x1 + 2))) (xs (sy_ix (x1 + 3))) σ114) rfl (by decide) (Nat.le_of_ble_eq_true rfl) rfl (fun r117 σ116 => ?_)
      refine ab_icmp_eq (tgt := 1182) hκ dL_law_935 rfl ?_ ?_
      · refine ab_iinc (v := (x1 + 6)) (lv' := [sy_vr 81, sy_vr 0, sy_vr 61, sy_vi (x1 + 6)]) hκ dL_law_1182 rfl rfl (by decide) rfl ?_
        refine ab_goto (tgt := 18) hκ dL_law_1185 rfl ?_
        exact hK18 (x1 + 6) σ116
      · refine ab_iconst (v := 0) hκ dL_law_938 rfl ?_
        exact ab_zret hκ dL_law_939
    · refine ab_aload_n hκ dL_law_940 rfl ?_
      refine ab_aload_n hκ dL_law_941 rfl ?_
      refine ab_iload_n hκ dL_law_942 rfl ?_
      refine ab_iconst (v := 1) hκ dL_law_943 rfl ?_
      refine ab_iadd hκ dL_law_944 ?_
      refine ab_sld hκ hX dL_law_945 ?_
      refine ab_cVi (vs := [.int (xs (sy_ix (x1 + 1)))]) (st := []) hκ dL_law_946 kl_RL_134 ki_X6_lose kv_X6_lose (sy_o6 rfl) rfl rfl (m6_lose_ok (xs (sy_ix (x1 + 1))) σ) rfl (by decide) (Nat.le_of_ble_eq_true rfl) rfl (fun r119 σ118 => ?_)
      refine ab_aload_n hκ dL_law_949 rfl ?_
      refine ab_aload_n hκ dL_law_950 rfl ?_
      refine ab_iload_n hκ dL_law_951 rfl ?_
      refine ab_iconst (v := 1) hκ dL_law_952 rfl ?_
      refine ab_iadd hκ dL_law_953 ?_
      refine ab_sld hκ hX dL_law_954 ?_
      refine ab_cVi (vs := [.int (xs (sy_ix (x1 + 1)))]) (st := [.int r119]) hκ dL_law_955 kl_RL_137 ki_X7_lose kv_X7_lose (sy_o7 rfl) rfl rfl (m7_lose_ok (xs (sy_ix (x1 + 1))) σ118) rfl (by decide) (Nat.le_of_ble_eq_true rfl) rfl (fun r121 σ120 => ?_)
      refine ab_icmp_eq (tgt := 1182) hκ dL_law_958 rfl ?_ ?_
      · refine ab_iinc (v := (x1 + 6)) (lv' := [sy_vr 81, sy_vr 0, sy_vr 61, sy_vi (x1 + 6)]) hκ dL_law_1182 rfl rfl (by decide) rfl ?_
        refine ab_goto (tgt := 18) hκ dL_law_1185 rfl ?_
        exact hK18 (x1 + 6) σ120
      · refine ab_iconst (v := 0) hκ dL_law_961 rfl ?_
        exact ab_zret hκ dL_law_962
    · refine ab_aload_n hκ dL_law_963 rfl ?_
      refine ab_aload_n hκ dL_law_964 rfl ?_
      refine ab_iload_n hκ dL_law_965 rfl ?_
      refine ab_iconst (v := 1) hκ dL_law_966 rfl ?_
      refine ab_iadd hκ dL_law_967 ?_
      refine ab_sld hκ hX dL_law_968 ?_
      refine ab_aload_n hκ dL_law_969 rfl ?_
      refine ab_iload_n hκ dL_law_970 rfl ?_
      refine ab_iconst (v := 2) hκ dL_law_971 rfl ?_
      refine ab_iadd hκ dL_law_972 ?_
      refine ab_sld hκ hX dL_law_973 ?_
      refine ab_aload_n hκ dL_law_974 rfl ?_
      refine ab_iload_n hκ dL_law_975 rfl ?_
      refine ab_iconst (v := 3) hκ dL_law_976 rfl ?_
      refine ab_iadd hκ dL_law_977 ?_
      refine ab_sld hκ hX dL_law_978 ?_
      refine ab_aload_n hκ dL_law_979 rfl ?_
      refine ab_iload_n hκ dL_law_980 rfl ?_
      refine ab_iconst (v := 4) hκ dL_law_981 rfl ?_
      refine ab_iadd hκ dL_law_982 ?_
      refine ab_sld hκ hX dL_law_983 ?_
      refine ab_cVi (vs := [.int (xs (sy_ix (x1 + 1))), .int (xs (sy_ix (x1 + 2))), .int (xs (sy_ix (x1 + 3))), .int (xs (sy_ix (x1 + 4)))]) (st := []) hκ dL_law_984 kl_RL_138 ki_X6_lay kv_X6_lay (sy_o6 rfl) rfl rfl (m6_lay_ok (xs (sy_ix (x1 + 1))) (xs (sy_ix (x1 + 2))) (xs (sy_ix (x1 + 3))) (xs (sy_ix (x1 + 4))) σ) rfl (by decide) (Nat.le_of_ble_eq_true rfl) rfl (fun r123 σ122 => ?_)
      refine ab_aload_n hκ dL_law_987 rfl ?_
      refine ab_aload_n hκ dL_law_988 rfl ?_
      refine ab_iload_n hκ dL_law_989 rfl ?_
      refine ab_iconst (v := 1) hκ dL_law_990 rfl ?_
      refine ab_iadd hκ dL_law_991 ?_
      refine ab_sld hκ hX dL_law_992 ?_
      refine ab_aload_n hκ dL_law_993 rfl ?_
      refine ab_iload_n hκ dL_law_994 rfl ?_
      refine ab_iconst (v := 2) hκ dL_law_995 rfl ?_
      refine ab_iadd hκ dL_law_996 ?_
      refine ab_sld hκ hX dL_law_997 ?_
      refine ab_aload_n hκ dL_law_998 rfl ?_
      refine ab_iload_n hκ dL_law_999 rfl ?_
      refine ab_iconst (v := 3) hκ dL_law_1000 rfl ?_
      refine ab_iadd hκ dL_law_1001 ?_
      refine ab_sld hκ hX dL_law_1002 ?_
      refine ab_aload_n hκ dL_law_1003 rfl ?_
      refine ab_iload_n hκ dL_law_1004 rfl ?_
      refine ab_iconst (v := 4) hκ dL_law_1005 rfl ?_
      refine ab_iadd hκ dL_law_1006 ?_
      refine ab_sld hκ hX dL_law_1007 ?_
      refine ab_cVi (vs := [.int (xs (sy_ix (x1 + 1))), .int (xs (sy_ix (x1 + 2))), .int (xs (sy_ix (x1 + 3))), .int (xs (sy_ix (x1 + 4)))]) (st := [.int r123]) hκ dL_law_1008 kl_RL_142 ki_X7_lay kv_X7_lay (sy_o7 rfl) rfl rfl (m7_lay_ok (xs (sy_ix (x1 + 1))) (xs (sy_ix (x1 + 2))) (xs (sy_ix (x1 + 3))) (xs (sy_ix (x1 + 4))) σ122) rfl (by decide) (Nat.le_of_ble_eq_true rfl) rfl (fun r125 σ124 => ?_)
      refine ab_icmp_eq (tgt := 1182) hκ dL_law_1011 rfl ?_ ?_
      · refine ab_iinc (v := (x1 + 6)) (lv' := [sy_vr 81, sy_vr 0, sy_vr 61, sy_vi (x1 + 6)]) hκ dL_law_1182 rfl rfl (by decide) rfl ?_
        refine ab_goto (tgt := 18) hκ dL_law_1185 rfl ?_
        exact hK18 (x1 + 6) σ124
      · refine ab_iconst (v := 0) hκ dL_law_1014 rfl ?_
        exact ab_zret hκ dL_law_1015
    · refine ab_aload_n hκ dL_law_1016 rfl ?_
      refine ab_aload_n hκ dL_law_1017 rfl ?_
      refine ab_iload_n hκ dL_law_1018 rfl ?_
      refine ab_iconst (v := 1) hκ dL_law_1019 rfl ?_
      refine ab_iadd hκ dL_law_1020 ?_
      refine ab_sld hκ hX dL_law_1021 ?_
      refine ab_aload_n hκ dL_law_1022 rfl ?_
      refine ab_iload_n hκ dL_law_1023 rfl ?_
      refine ab_iconst (v := 2) hκ dL_law_1024 rfl ?_
      refine ab_iadd hκ dL_law_1025 ?_
      refine ab_sld hκ hX dL_law_1026 ?_
      refine ab_aload_n hκ dL_law_1027 rfl ?_
      refine ab_iload_n hκ dL_law_1028 rfl ?_
      refine ab_iconst (v := 3) hκ dL_law_1029 rfl ?_
      refine ab_iadd hκ dL_law_1030 ?_
      refine ab_sld hκ hX dL_law_1031 ?_
      refine ab_cVi (vs := [.int (xs (sy_ix (x1 + 1))), .int (xs (sy_ix (x1 + 2))), .int (xs (sy_ix (x1 + 3)))]) (st := []) hκ dL_law_1032 kl_RL_143 ki_X6_get kv_X6_get (sy_o6 rfl) rfl rfl (m6_get_ok (xs (sy_ix (x1 + 1))) (xs (sy_ix (x1 + 2))) (xs (sy_ix (x1 + 3))) σ) rfl (by decide) (Nat.le_of_ble_eq_true rfl) rfl (fun r127 σ126 => ?_)
      refine ab_aload_n hκ dL_law_1035 rfl ?_
      refine ab_aload_n hκ dL_law_1036 rfl ?_
      refine ab_iload_n hκ dL_law_1037 rfl ?_
      refine ab_iconst (v := 1) hκ dL_law_1038 rfl ?_
      refine ab_iadd hκ dL_law_1039 ?_
      refine ab_sld hκ hX dL_law_1040 ?_
      refine ab_aload_n hκ dL_law_1041 rfl ?_
      refine ab_iload_n hκ dL_law_1042 rfl ?_
      refine ab_iconst (v := 2) hκ dL_law_1043 rfl ?_
      refine ab_iadd hκ dL_law_1044 ?_
      refine ab_sld hκ hX dL_law_1045 ?_
      refine ab_aload_n hκ dL_law_1046 rfl ?_
      refine ab_iload_n hκ dL_law_1047 rfl ?_
      refine ab_iconst (v := 3) hκ dL_law_1048 rfl ?_
      refine ab_iadd hκ dL_law_1049 ?_
      refine ab_sld hκ hX dL_law_1050 ?_
      refine ab_cVi (vs := [.int (xs (sy_ix (x1 + 1))), .int (xs (sy_ix (x1 + 2))), .int (xs (sy_ix (x1 + 3)))]) (st := [.int r127]) hκ dL_law_1051 kl_RL_146 ki_X7_get kv_X7_get (sy_o7 rfl) rfl rfl (m7_get_ok (xs (sy_ix (x1 + 1))) (xs (sy_ix (x1 + 2))) (xs (sy_ix (x1 + 3))) σ126) rfl (by decide) (Nat.le_of_ble_eq_true rfl) rfl (fun r129 σ128 => ?_)
      refine ab_icmp_eq (tgt := 1182) hκ dL_law_1054 rfl ?_ ?_
      · refine ab_iinc (v := (x1 + 6)) (lv' := [sy_vr 81, sy_vr 0, sy_vr 61, sy_vi (x1 + 6)]) hκ dL_law_1182 rfl rfl (by decide) rfl ?_
        refine ab_goto (tgt := 18) hκ dL_law_1185 rfl ?_
        exact hK18 (x1 + 6) σ128
      · refine ab_iconst (v := 0) hκ dL_law_1057 rfl ?_
        exact ab_zret hκ dL_law_1058
    · refine ab_aload_n hκ dL_law_1059 rfl ?_
      refine ab_aload_n hκ dL_law_1060 rfl ?_
      refine ab_iload_n hκ dL_law_1061 rfl ?_
      refine ab_iconst (v := 1) hκ dL_law_1062 rfl ?_
      refine ab_iadd hκ dL_law_1063 ?_
      refine ab_sld hκ hX dL_law_1064 ?_
      refine ab_aload_n hκ dL_law_1065 rfl ?_
      refine ab_iload_n hκ dL_law_1066 rfl ?_
      refine ab_iconst (v := 2) hκ dL_law_1067 rfl ?_
      refine ab_iadd hκ dL_law_1068 ?_
      refine ab_sld hκ hX dL_law_1069 ?_
      refine ab_aload_n hκ dL_law_1070 rfl ?_
      refine ab_iload_n hκ dL_law_1071 rfl ?_
      refine ab_iconst (v := 3) hκ dL_law_1072 rfl ?_
      refine ab_iadd hκ dL_law_1073 ?_
      refine ab_sld hκ hX dL_law_1074 ?_
      refine ab_aload_n hκ dL_law_1075 rfl ?_
      refine ab_iload_n hκ dL_law_1076 rfl ?_
      refine ab_iconst (v := 4) hκ dL_law_1077 rfl ?_
      refine ab_iadd hκ dL_law_1078 ?_
      refine ab_sld hκ hX dL_law_1079 ?_
      refine ab_aload_n hκ dL_law_1080 rfl ?_
      refine ab_iload_n hκ dL_law_1081 rfl ?_
      refine ab_iconst (v := 5) hκ dL_law_1082 rfl ?_
      refine ab_iadd hκ dL_law_1083 ?_
      refine ab_sld hκ hX dL_law_1084 ?_
      refine ab_cVi (vs := [.int (xs (sy_ix (x1 + 1))), .int (xs (sy_ix (x1 + 2))), .int (xs (sy_ix (x1 + 3))), .int (xs (sy_ix (x1 + 4))), .int (xs (sy_ix (x1 + 5)))]) (st := []) hκ dL_law_1085 kl_RL_147 ki_X6_copy kv_X6_copy (sy_o6 rfl) rfl rfl (m6_copy_ok (xs (sy_ix (x1 + 1))) (xs (sy_ix (x1 + 2))) (xs (sy_ix (x1 + 3))) (xs (sy_ix (x1 + 4))) (xs (sy_ix (x1 + 5))) σ) rfl (by decide) (Nat.le_of_ble_eq_true rfl) rfl (fun r131 σ130 => ?_)
      refine ab_aload_n hκ dL_law_1088 rfl ?_
      refine ab_aload_n hκ dL_law_1089 rfl ?_
      refine ab_iload_n hκ dL_law_1090 rfl ?_
      refine ab_iconst (v := 1) hκ dL_law_1091 rfl ?_
      refine ab_iadd hκ dL_law_1092 ?_
      refine ab_sld hκ hX dL_law_1093 ?_
      refine ab_aload_n hκ dL_law_1094 rfl ?_
      refine ab_iload_n hκ dL_law_1095 rfl ?_
      refine ab_iconst (v := 2) hκ dL_law_1096 rfl ?_
      refine ab_iadd hκ dL_law_1097 ?_
      refine ab_sld hκ hX dL_law_1098 ?_
      refine ab_aload_n hκ dL_law_1099 rfl ?_
      refine ab_iload_n hκ dL_law_1100 rfl ?_
      refine ab_iconst (v := 3) hκ dL_law_1101 rfl ?_
      refine ab_iadd hκ dL_law_1102 ?_
      refine ab_sld hκ hX dL_law_1103 ?_
      refine ab_aload_n hκ dL_law_1104 rfl ?_
      refine ab_iload_n hκ dL_law_1105 rfl ?_
      refine ab_iconst (v := 4) hκ dL_law_1106 rfl ?_
      refine ab_iadd hκ dL_law_1107 ?_
      refine ab_sld hκ hX dL_law_1108 ?_
      refine ab_aload_n hκ dL_law_1109 rfl ?_
      refine ab_iload_n hκ dL_law_1110 rfl ?_
      refine ab_iconst (v := 5) hκ dL_law_1111 rfl ?_
      refine ab_iadd hκ dL_law_1112 ?_
      refine ab_sld hκ hX dL_law_1113 ?_
      refine ab_cVi (vs := [.int (xs (sy_ix (x1 + 1))), .int (xs (sy_ix (x1 + 2))), .int (xs (sy_ix (x1 + 3))), .int (xs (sy_ix (x1 + 4))), .int (xs (sy_ix (x1 + 5)))]) (st := [.int r131]) hκ dL_law_1114 kl_RL_151 ki_X7_copy kv_X7_copy (sy_o7 rfl) rfl rfl (m7_copy_ok (xs (sy_ix (x1 + 1))) (xs (sy_ix (x1 + 2))) (xs (sy_ix (x1 + 3))) (xs (sy_ix (x1 + 4))) (xs (sy_ix (x1 + 5))) σ130) rfl (by decide) (Nat.le_of_ble_eq_true rfl) rfl (fun r133 σ132 => ?_)
      refine ab_icmp_eq (tgt := 1182) hκ dL_law_1117 rfl ?_ ?_
      · refine ab_iinc (v := (x1 + 6)) (lv' := [sy_vr 81, sy_vr 0, sy_vr 61, sy_vi (x1 + 6)]) hκ dL_law_1182 rfl rfl (by decide) rfl ?_
        refine ab_goto (tgt := 18) hκ dL_law_1185 rfl ?_
        exact hK18 (x1 + 6) σ132
      · refine ab_iconst (v := 0) hκ dL_law_1120 rfl ?_
        exact ab_zret hκ dL_law_1121
    · refine ab_aload_n hκ dL_law_1122 rfl ?_
      refine ab_aload_n hκ dL_law_1123 rfl ?_
      refine ab_iload_n hκ dL_law_1124 rfl ?_
      refine ab_iconst (v := 1) hκ dL_law_1125 rfl ?_
      refine ab_iadd hκ dL_law_1126 ?_
      refine ab_sld hκ hX dL_law_1127 ?_
      refine ab_cVi (vs := [.int (xs (sy_ix (x1 + 1)))]) (st := []) hκ dL_law_1128 kl_RL_152 ki_X6_write kv_X6_write (sy_o6 rfl) rfl rfl (m6_write_ok (xs (sy_ix (x1 + 1))) σ) rfl (by decide) (Nat.le_of_ble_eq_true rfl) rfl (fun r135 σ134 => ?_)
      refine ab_aload_n hκ dL_law_1131 rfl ?_
      refine ab_aload_n hκ dL_law_1132 rfl ?_
      refine ab_iload_n hκ dL_law_1133 rfl ?_
      refine ab_iconst (v := 1) hκ dL_law_1134 rfl ?_
      refine ab_iadd hκ dL_law_1135 ?_
      refine ab_sld hκ hX dL_law_1136 ?_
      refine ab_cVi (vs := [.int (xs (sy_ix (x1 + 1)))]) (st := [.int r135]) hκ dL_law_1137 kl_RL_155 ki_X7_write kv_X7_write (sy_o7 rfl) rfl rfl (m7_write_ok (xs (sy_ix (x1 + 1))) σ134) rfl (by decide) (Nat.le_of_ble_eq_true rfl) rfl (fun r137 σ136 => ?_)
      refine ab_icmp_eq (tgt := 1182) hκ dL_law_1140 rfl ?_ ?_
      · refine ab_iinc (v := (x1 + 6)) (lv' := [sy_vr 81, sy_vr 0, sy_vr 61, sy_vi (x1 + 6)]) hκ dL_law_1182 rfl rfl (by decide) rfl ?_
        refine ab_goto (tgt := 18) hκ dL_law_1185 rfl ?_
        exact hK18 (x1 + 6) σ136
      · refine ab_iconst (v := 0) hκ dL_law_1143 rfl ?_
        exact ab_zret hκ dL_law_1144
    · refine ab_aload_n hκ dL_law_1145 rfl ?_
      refine ab_aload_n hκ dL_law_1146 rfl ?_
      refine ab_iload_n hκ dL_law_1147 rfl ?_
      refine ab_iconst (v := 1) hκ dL_law_1148 rfl ?_
      refine ab_iadd hκ dL_law_1149 ?_
      refine ab_sld hκ hX dL_law_1150 ?_
      refine ab_cVi (vs := [.int (xs (sy_ix (x1 + 1)))]) (st := []) hκ dL_law_1151 kl_RL_156 ki_X6_count kv_X6_count (sy_o6 rfl) rfl rfl (m6_count_ok (xs (sy_ix (x1 + 1))) σ) rfl (by decide) (Nat.le_of_ble_eq_true rfl) rfl (fun r139 σ138 => ?_)
      refine ab_aload_n hκ dL_law_1154 rfl ?_
      refine ab_aload_n hκ dL_law_1155 rfl ?_
      refine ab_iload_n hκ dL_law_1156 rfl ?_
      refine ab_iconst (v := 1) hκ dL_law_1157 rfl ?_
      refine ab_iadd hκ dL_law_1158 ?_
      refine ab_sld hκ hX dL_law_1159 ?_
      refine ab_cVi (vs := [.int (xs (sy_ix (x1 + 1)))]) (st := [.int r139]) hκ dL_law_1160 kl_RL_159 ki_X7_count kv_X7_count (sy_o7 rfl) rfl rfl (m7_count_ok (xs (sy_ix (x1 + 1))) σ138) rfl (by decide) (Nat.le_of_ble_eq_true rfl) rfl (fun r141 σ140 => ?_)
      refine ab_icmp_eq (tgt := 1182) hκ dL_law_1163 rfl ?_ ?_
      · refine ab_iinc (v := (x1 + 6)) (lv' := [sy_vr 81, sy_vr 0, sy_vr 61, sy_vi (x1 + 6)]) hκ dL_law_1182 rfl rfl (by decide) rfl ?_
        refine ab_goto (tgt := 18) hκ dL_law_1185 rfl ?_
        exact hK18 (x1 + 6) σ140
      · refine ab_iconst (v := 0) hκ dL_law_1166 rfl ?_
        exact ab_zret hκ dL_law_1167
    · refine ab_aload_n hκ dL_law_1168 rfl ?_
      refine ab_cVl (vs := []) (st := []) hκ dL_law_1169 kl_RL_160 ki_X6_digest kv_X6_digest (sy_o6 rfl) rfl rfl (m6_digest_ok σ) rfl (by decide) (Nat.le_of_ble_eq_true rfl) rfl (fun r143 σ142 => ?_)
      refine ab_aload_n hκ dL_law_1172 rfl ?_
      refine ab_cVl (vs := []) (st := [.long r143]) hκ dL_law_1173 kl_RL_164 ki_X7_digest kv_X7_digest (sy_o7 rfl) rfl rfl (m7_digest_ok σ142) rfl (by decide) (Nat.le_of_ble_eq_true rfl) rfl (fun r145 σ144 => ?_)
      refine ab_lcmp hκ dL_law_1176 ?_
      refine ab_if_eq (tgt := 1182) hκ dL_law_1177 rfl ?_ ?_
      · refine ab_iinc (v := (x1 + 6)) (lv' := [sy_vr 81, sy_vr 0, sy_vr 61, sy_vi (x1 + 6)]) hκ dL_law_1182 rfl rfl (by decide) rfl ?_
        refine ab_goto (tgt := 18) hκ dL_law_1185 rfl ?_
        exact hK18 (x1 + 6) σ144
      · refine ab_iconst (v := 0) hκ dL_law_1180 rfl ?_
        exact ab_zret hκ dL_law_1181
theorem ml_law_L18_ok {κ : Kx} (hκ : Gd κ cL_law 4 RL (some .boolean) 10) (L : Nat) (xs : Nat → Int32) (hX : sy_X κ L xs) : ∀ (n : Nat) (x1 : Int32) (σ : St), Ab sy_vi κ 18 [sy_vr 81, sy_vr 0, sy_vr 61, sy_vi x1] [] σ (ml_law_L18 L xs  n x1 σ) := by
  intro n
  induction n with
  | zero => intros; exact ab_none
  | succ n ih => exact fun x1 σ => ml_law_L18b_ok hκ L xs hX ih  x1 σ
def mL_law (L : Nat) (xs : Nat → Int32) (σ : St) : Option (Int32 × St) := ml_law_L18 L xs sy_FU 0 σ
set_option maxRecDepth 100000 in
set_option maxHeartbeats 4000000 in
theorem mL_law_ok {κ : Kx} (hκ : Gd κ cL_law 4 RL (some .boolean) 10) (L : Nat) (xs : Nat → Int32) (hX : sy_X κ L xs) (σ : St) : Ab sy_vi κ 18 [sy_vr 81, sy_vr 0, sy_vr 61, sy_vi 0] [] σ (mL_law L xs σ) := by
  unfold mL_law
  exact ml_law_L18_ok hκ L xs hX _ _ _
