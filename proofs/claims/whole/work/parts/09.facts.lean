theorem sy_kw {ws : List Cond} (ps : List Nat) (h : ws = ps.filterMap (fun i => lw_tbl[i]?)) (hg : ws.all goodWord = true) : ∀ w ∈ ws, w ∈ sy_T := by
  intro w hw
  refine List.mem_filter.mpr ⟨?_, List.all_eq_true.mp hg w hw⟩
  rw [h] at hw
  obtain ⟨i, -, hi⟩ := List.mem_filterMap.mp hw
  exact List.mem_of_getElem? hi
theorem kw_0 : ∀ w ∈ u_ws RX0 TX0 15, w ∈ sy_T := sy_kw [157, 159, 161, 163, 165, 167, 169, 171, 173, 175, 177, 179, 181, 183, 185] (by decide +kernel) (by decide +kernel)
theorem kc_0 : sy_CI 0 RX0 TX0 15 tyX0 := ⟨rfl, kw_0, tyX0_ok, nmX0⟩
abbrev sy_is0 (k : Nat) : Prop := k = 5 ∨ k = 15
theorem sy_o0 {k : Nat} (h : sy_is0 k) : sy_shp[k]? = some (.inr (.inr (0, [none, some 1, some 2, some 3, some 4, none, some 5, some 6, some 7, none, none, some 8, some 9, none, none]))) := by rcases h with rfl | rfl <;> rfl
theorem sy_a0_1 {k : Nat} (h : sy_is0 k) : sy_shp[k + 1]? = some (.inl 11) := by rcases h with rfl | rfl <;> rfl
theorem sy_a0_2 {k : Nat} (h : sy_is0 k) : sy_shp[k + 2]? = some (.inl 11) := by rcases h with rfl | rfl <;> rfl
theorem sy_a0_3 {k : Nat} (h : sy_is0 k) : sy_shp[k + 3]? = some (.inl 11) := by rcases h with rfl | rfl <;> rfl
theorem sy_a0_4 {k : Nat} (h : sy_is0 k) : sy_shp[k + 4]? = some (.inl 11) := by rcases h with rfl | rfl <;> rfl
theorem sy_a0_6 {k : Nat} (h : sy_is0 k) : sy_shp[k + 5]? = some (.inl 16) := by rcases h with rfl | rfl <;> rfl
theorem sy_a0_7 {k : Nat} (h : sy_is0 k) : sy_shp[k + 6]? = some (.inl 16) := by rcases h with rfl | rfl <;> rfl
theorem sy_a0_8 {k : Nat} (h : sy_is0 k) : sy_shp[k + 7]? = some (.inl 24) := by rcases h with rfl | rfl <;> rfl
theorem sy_a0_11 {k : Nat} (h : sy_is0 k) : sy_shp[k + 8]? = some (.inl 8) := by rcases h with rfl | rfl <;> rfl
theorem sy_a0_12 {k : Nat} (h : sy_is0 k) : sy_shp[k + 9]? = some (.inl 8) := by rcases h with rfl | rfl <;> rfl
theorem kw_1 : ∀ w ∈ u_ws RX1 TX1 4, w ∈ sy_T := sy_kw [290, 292, 294, 296] (by decide +kernel) (by decide +kernel)
theorem kc_1 : sy_CI 1 RX1 TX1 4 tyX1 := ⟨rfl, kw_1, tyX1_ok, nmX1⟩
abbrev sy_is1 (k : Nat) : Prop := k = 46 ∨ k = 47 ∨ k = 48 ∨ k = 49
theorem sy_o1 {k : Nat} (h : sy_is1 k) : sy_shp[k]? = some (.inr (.inr (1, [none, none, none, none]))) := by rcases h with rfl | rfl | rfl | rfl <;> rfl
theorem kw_2 : ∀ w ∈ u_ws RX2 TX2 3, w ∈ sy_T := sy_kw [269, 271, 273] (by decide +kernel) (by decide +kernel)
theorem kc_2 : sy_CI 2 RX2 TX2 3 tyX2 := ⟨rfl, kw_2, tyX2_ok, nmX2⟩
abbrev sy_is2 (k : Nat) : Prop := k = 43
theorem sy_o2 {k : Nat} (h : sy_is2 k) : sy_shp[k]? = some (.inr (.inr (2, [some 1, some 2, none]))) := by subst h; rfl
theorem sy_a2_0 {k : Nat} (h : sy_is2 k) : sy_shp[k + 1]? = some (.inl 8) := by subst h; rfl
theorem sy_a2_1 {k : Nat} (h : sy_is2 k) : sy_shp[k + 2]? = some (.inl 8) := by subst h; rfl
theorem kw_3 : ∀ w ∈ u_ws RX3 TX3 17, w ∈ sy_T := sy_kw [224, 226, 228, 230, 232, 234, 236, 238, 240, 242, 244, 246, 248, 250, 252, 254, 256] (by decide +kernel) (by decide +kernel)
theorem kc_3 : sy_CI 3 RX3 TX3 17 tyX3 := ⟨rfl, kw_3, tyX3_ok, nmX3⟩
abbrev sy_is3 (k : Nat) : Prop := k = 25 ∨ k = 34
theorem sy_o3 {k : Nat} (h : sy_is3 k) : sy_shp[k]? = some (.inr (.inr (3, [some 1, some 2, some 3, some 4, some 5, some 6, some 7, none, none, none, none, none, some 8, none, none, none, none]))) := by rcases h with rfl | rfl <;> rfl
theorem sy_a3_0 {k : Nat} (h : sy_is3 k) : sy_shp[k + 1]? = some (.inl 24) := by rcases h with rfl | rfl <;> rfl
theorem sy_a3_1 {k : Nat} (h : sy_is3 k) : sy_shp[k + 2]? = some (.inl 24) := by rcases h with rfl | rfl <;> rfl
theorem sy_a3_2 {k : Nat} (h : sy_is3 k) : sy_shp[k + 3]? = some (.inl 24) := by rcases h with rfl | rfl <;> rfl
theorem sy_a3_3 {k : Nat} (h : sy_is3 k) : sy_shp[k + 4]? = some (.inl 16) := by rcases h with rfl | rfl <;> rfl
theorem sy_a3_4 {k : Nat} (h : sy_is3 k) : sy_shp[k + 5]? = some (.inl 11) := by rcases h with rfl | rfl <;> rfl
theorem sy_a3_5 {k : Nat} (h : sy_is3 k) : sy_shp[k + 6]? = some (.inl 11) := by rcases h with rfl | rfl <;> rfl
theorem sy_a3_6 {k : Nat} (h : sy_is3 k) : sy_shp[k + 7]? = some (.inl 11) := by rcases h with rfl | rfl <;> rfl
theorem sy_a3_12 {k : Nat} (h : sy_is3 k) : sy_shp[k + 8]? = some (.inl 24) := by rcases h with rfl | rfl <;> rfl
theorem kw_4 : ∀ w ∈ u_ws RX4 TX4 4, w ∈ sy_T := sy_kw [314, 316, 318, 320] (by decide +kernel) (by decide +kernel)
theorem kc_4 : sy_CI 4 RX4 TX4 4 tyX4 := ⟨rfl, kw_4, tyX4_ok, nmX4⟩
abbrev sy_is4 (k : Nat) : Prop := k = 53 ∨ k = 55 ∨ k = 57 ∨ k = 59
theorem sy_o4 {k : Nat} (h : sy_is4 k) : sy_shp[k]? = some (.inr (.inr (4, [none, none, none, some 1]))) := by rcases h with rfl | rfl | rfl | rfl <;> rfl
theorem sy_a4_3 {k : Nat} (h : sy_is4 k) : sy_shp[k + 1]? = some (.inl 60) := by rcases h with rfl | rfl | rfl | rfl <;> rfl
theorem kw_5 : ∀ w ∈ u_ws RX5 TX5 5, w ∈ sy_T := sy_kw [100, 102, 104, 106, 108] (by decide +kernel) (by decide +kernel)
theorem kc_5 : sy_CI 5 RX5 TX5 5 tyX5 := ⟨rfl, kw_5, tyX5_ok, nmX5⟩
abbrev sy_is5 (k : Nat) : Prop := k = 1 ∨ k = 3
theorem sy_o5 {k : Nat} (h : sy_is5 k) : sy_shp[k]? = some (.inr (.inr (5, [none, none, none, some 1, none]))) := by rcases h with rfl | rfl <;> rfl
theorem sy_a5_3 {k : Nat} (h : sy_is5 k) : sy_shp[k + 1]? = some (.inl 47) := by rcases h with rfl | rfl <;> rfl
theorem kw_6 : ∀ w ∈ u_ws RX6 TX6 17, w ∈ sy_T := sy_kw [340, 342, 344, 346, 348, 350, 352, 354, 356, 358, 360, 362, 364, 366, 368, 370, 372] (by decide +kernel) (by decide +kernel)
theorem kc_6 : sy_CI 6 RX6 TX6 17 tyX6 := ⟨rfl, kw_6, tyX6_ok, nmX6⟩
abbrev sy_is6 (k : Nat) : Prop := k = 0
theorem sy_o6 {k : Nat} (h : sy_is6 k) : sy_shp[k]? = some (.inr (.inr (6, [some 1, some 3, some 5, some 15, some 25, some 34, some 43, some 46, some 47, some 48, some 49, some 50, some 51, some 52, none, none, none]))) := by subst h; rfl
theorem sy_a6_11 {k : Nat} (h : sy_is6 k) : sy_shp[k + 50]? = some (.inl 256) := by subst h; rfl
theorem sy_a6_12 {k : Nat} (h : sy_is6 k) : sy_shp[k + 51]? = some (.inl 48) := by subst h; rfl
theorem kw_7 : ∀ w ∈ u_ws RX7 TX7 32, w ∈ sy_T := sy_kw [829, 831, 833, 835, 837, 839, 841, 843, 845, 847, 849, 851, 853, 855, 857, 859, 861, 863, 865, 867, 869, 871, 873, 875, 877, 879, 881, 883, 885, 887, 889, 891] (by decide +kernel) (by decide +kernel)
theorem kc_7 : sy_CI 7 RX7 TX7 32 tyX7 := ⟨rfl, kw_7, tyX7_ok, nmX7⟩
abbrev sy_is7 (k : Nat) : Prop := k = 61
theorem sy_o7 {k : Nat} (h : sy_is7 k) : sy_shp[k]? = some (.inr (.inr (7, [some 1, some 2, some 3, some 4, none, some 5, some 6, none, some 7, none, some 8, none, none, some 9, none, none, none, none, none, none, some 10, some 11, some 12, some 13, some 14, some 15, some 16, some 17, none, some 18, some 19, none]))) := by subst h; rfl
theorem sy_a7_0 {k : Nat} (h : sy_is7 k) : sy_shp[k + 1]? = some (.inl 4) := by subst h; rfl
theorem sy_a7_1 {k : Nat} (h : sy_is7 k) : sy_shp[k + 2]? = some (.inl 4) := by subst h; rfl
theorem sy_a7_2 {k : Nat} (h : sy_is7 k) : sy_shp[k + 3]? = some (.inl 240) := by subst h; rfl
theorem sy_a7_3 {k : Nat} (h : sy_is7 k) : sy_shp[k + 4]? = some (.inl 60) := by subst h; rfl
theorem sy_a7_5 {k : Nat} (h : sy_is7 k) : sy_shp[k + 5]? = some (.inl 96) := by subst h; rfl
theorem sy_a7_6 {k : Nat} (h : sy_is7 k) : sy_shp[k + 6]? = some (.inl 2) := by subst h; rfl
theorem sy_a7_8 {k : Nat} (h : sy_is7 k) : sy_shp[k + 7]? = some (.inl 22) := by subst h; rfl
theorem sy_a7_10 {k : Nat} (h : sy_is7 k) : sy_shp[k + 8]? = some (.inl 32) := by subst h; rfl
theorem sy_a7_13 {k : Nat} (h : sy_is7 k) : sy_shp[k + 9]? = some (.inl 16) := by subst h; rfl
theorem sy_a7_20 {k : Nat} (h : sy_is7 k) : sy_shp[k + 10]? = some (.inl 24) := by subst h; rfl
theorem sy_a7_21 {k : Nat} (h : sy_is7 k) : sy_shp[k + 11]? = some (.inl 24) := by subst h; rfl
theorem sy_a7_22 {k : Nat} (h : sy_is7 k) : sy_shp[k + 12]? = some (.inl 24) := by subst h; rfl
theorem sy_a7_23 {k : Nat} (h : sy_is7 k) : sy_shp[k + 13]? = some (.inl 16) := by subst h; rfl
theorem sy_a7_24 {k : Nat} (h : sy_is7 k) : sy_shp[k + 14]? = some (.inl 11) := by subst h; rfl
theorem sy_a7_25 {k : Nat} (h : sy_is7 k) : sy_shp[k + 15]? = some (.inl 11) := by subst h; rfl
theorem sy_a7_26 {k : Nat} (h : sy_is7 k) : sy_shp[k + 16]? = some (.inl 11) := by subst h; rfl
theorem sy_a7_27 {k : Nat} (h : sy_is7 k) : sy_shp[k + 17]? = some (.inl 11) := by subst h; rfl
theorem sy_a7_29 {k : Nat} (h : sy_is7 k) : sy_shp[k + 18]? = some (.inl 16) := by subst h; rfl
theorem sy_a7_30 {k : Nat} (h : sy_is7 k) : sy_shp[k + 19]? = some (.inl 64) := by subst h; rfl
theorem kf_RX6_18 : sy_FR RX6 18 6 1 := ⟨RX6, TX6, 17, tyX6, kc_6, by decide, sy_mem 324 (by decide +kernel) rfl⟩
theorem kf_RX6_14 : sy_FR RX6 14 6 0 := ⟨RX6, TX6, 17, tyX6, kc_6, by decide, sy_mem 323 (by decide +kernel) rfl⟩
theorem kf_RX5_15 : sy_FR RX5 15 5 4 := ⟨RX5, TX5, 5, tyX5, kc_5, by decide, sy_mem 98 (by decide +kernel) rfl⟩
theorem kf_RX5_23 : sy_FR RX5 23 5 1 := ⟨RX5, TX5, 5, tyX5, kc_5, by decide, sy_mem 95 (by decide +kernel) rfl⟩
theorem kf_RX5_9 : sy_FR RX5 9 5 3 := ⟨RX5, TX5, 5, tyX5, kc_5, by decide, sy_mem 97 (by decide +kernel) rfl⟩
theorem kp_RX5_15 : sy_FP RX5 15 5 4 .int := ⟨RX5, TX5, 5, tyX5, kc_5, by decide, sy_mem 98 (by decide +kernel) rfl, rfl, rfl⟩
theorem kf_RX5_19 : sy_FR RX5 19 5 0 := ⟨RX5, TX5, 5, tyX5, kc_5, by decide, sy_mem 94 (by decide +kernel) rfl⟩
theorem kl_RX5_37 : Cond.methodLink RX5 37 yX5_upTo ∈ sy_T := sy_mem 414 (by decide +kernel) rfl
theorem ki_X5_upTo : sy_MI yX5_upTo cX5_upTo 3 (some .int) 3 := ⟨sy_mem 416 (by decide +kernel) rfl, sy_mem 69 (by decide +kernel) rfl, by decide +kernel, by decide⟩
theorem kv_X5_upTo : Cond.static yX5_upTo ∈ sy_T := sy_mem 415 (by decide +kernel) rfl
theorem kl_RX5_41 : Cond.methodLink RX5 41 yX5_sortOf ∈ sy_T := sy_mem 417 (by decide +kernel) rfl
theorem ki_X5_sortOf : sy_MI yX5_sortOf cX5_sortOf 1 (some .int) 1 := ⟨sy_mem 419 (by decide +kernel) rfl, sy_mem 69 (by decide +kernel) rfl, by decide +kernel, by decide⟩
theorem kv_X5_sortOf : Cond.static yX5_sortOf ∈ sy_T := sy_mem 418 (by decide +kernel) rfl
theorem kl_RX5_45 : Cond.methodLink RX5 45 yX5_meaning ∈ sy_T := sy_mem 410 (by decide +kernel) rfl
theorem ki_X5_meaning : sy_MI yX5_meaning cX5_meaning 3 (some .int) 2 := ⟨sy_mem 413 (by decide +kernel) rfl, sy_mem 69 (by decide +kernel) rfl, by decide +kernel, by decide⟩
theorem kv_X5_meaning : sy_MV yX5_meaning := ⟨sy_mem 411 (by decide +kernel) rfl, sy_mem 412 (by decide +kernel) rfl⟩
theorem kf_RX5_26 : sy_FR RX5 26 5 2 := ⟨RX5, TX5, 5, tyX5, kc_5, by decide, sy_mem 96 (by decide +kernel) rfl⟩
theorem kl_RX5_29 : Cond.methodLink RX5 29 yX5_mayStand ∈ sy_T := sy_mem 406 (by decide +kernel) rfl
theorem ki_X5_mayStand : sy_MI yX5_mayStand cX5_mayStand 3 (some .boolean) 2 := ⟨sy_mem 409 (by decide +kernel) rfl, sy_mem 69 (by decide +kernel) rfl, by decide +kernel, by decide⟩
theorem kv_X5_mayStand : sy_MV yX5_mayStand := ⟨sy_mem 408 (by decide +kernel) rfl, sy_mem 2 (by decide +kernel) rfl⟩
theorem kl_RX5_33 : Cond.methodLink RX5 33 yX5_faultPlace ∈ sy_T := sy_mem 402 (by decide +kernel) rfl
theorem ki_X5_faultPlace : sy_MI yX5_faultPlace cX5_faultPlace 2 (some .int) 0 := ⟨sy_mem 405 (by decide +kernel) rfl, sy_mem 69 (by decide +kernel) rfl, by decide +kernel, by decide⟩
theorem kv_X5_faultPlace : sy_MV yX5_faultPlace := ⟨sy_mem 403 (by decide +kernel) rfl, sy_mem 404 (by decide +kernel) rfl⟩
theorem kl_RX0_58 : Cond.methodLink RX0 58 yX5_things ∈ sy_T := sy_mem 398 (by decide +kernel) rfl
theorem kl_RX0_64 : Cond.methodLink RX0 64 Lib.Math.min.name ∈ sy_T := sy_mem 420 (by decide +kernel) rfl
theorem kp_RX0_9 : sy_FP RX0 9 0 0 .int := ⟨RX0, TX0, 15, tyX0, kc_0, by decide, sy_mem 118 (by decide +kernel) rfl, rfl, rfl⟩
theorem kf_RX0_9 : sy_FR RX0 9 0 0 := ⟨RX0, TX0, 15, tyX0, kc_0, by decide, sy_mem 118 (by decide +kernel) rfl⟩
theorem kf_RX0_15 : sy_FR RX0 15 0 1 := ⟨RX0, TX0, 15, tyX0, kc_0, by decide, sy_mem 121 (by decide +kernel) rfl⟩
theorem kl_RX0_70 : Cond.methodLink RX0 70 yX5_meaningAt ∈ sy_T := sy_mem 423 (by decide +kernel) rfl
theorem kf_RX0_19 : sy_FR RX0 19 0 2 := ⟨RX0, TX0, 15, tyX0, kc_0, by decide, sy_mem 124 (by decide +kernel) rfl⟩
theorem kf_RX0_22 : sy_FR RX0 22 0 3 := ⟨RX0, TX0, 15, tyX0, kc_0, by decide, sy_mem 127 (by decide +kernel) rfl⟩
theorem kf_RX0_25 : sy_FR RX0 25 0 4 := ⟨RX0, TX0, 15, tyX0, kc_0, by decide, sy_mem 129 (by decide +kernel) rfl⟩
theorem ki_X5_meaningAt : sy_MI yX5_meaningAt cX5_meaningAt 4 (some .int) 2 := ⟨sy_mem 426 (by decide +kernel) rfl, sy_mem 69 (by decide +kernel) rfl, by decide +kernel, by decide⟩
theorem kv_X5_meaningAt : sy_MV yX5_meaningAt := ⟨sy_mem 424 (by decide +kernel) rfl, sy_mem 425 (by decide +kernel) rfl⟩
theorem ki_X5_things : sy_MI yX5_things cX5_things 1 (some .int) 0 := ⟨sy_mem 401 (by decide +kernel) rfl, sy_mem 69 (by decide +kernel) rfl, by decide +kernel, by decide⟩
theorem kv_X5_things : sy_MV yX5_things := ⟨sy_mem 399 (by decide +kernel) rfl, sy_mem 400 (by decide +kernel) rfl⟩
theorem kp_RX0_28 : sy_FP RX0 28 0 5 .int := ⟨RX0, TX0, 15, tyX0, kc_0, by decide, sy_mem 131 (by decide +kernel) rfl, rfl, rfl⟩
theorem kf_RX0_37 : sy_FR RX0 37 0 8 := ⟨RX0, TX0, 15, tyX0, kc_0, by decide, sy_mem 139 (by decide +kernel) rfl⟩
theorem kl_RX0_80 : Cond.methodLink RX0 80 yJ7_fill_53178 ∈ sy_T := sy_mem 435 (by decide +kernel) rfl
theorem ki_J7_fill_53178 : sy_MI yJ7_fill_53178 cJ7_fill_53178 4 none 2 := ⟨sy_mem 437 (by decide +kernel) rfl, sy_mem 77 (by decide +kernel) rfl, by decide +kernel, by decide⟩
theorem kv_J7_fill_53178 : Cond.static yJ7_fill_53178 ∈ sy_T := sy_mem 436 (by decide +kernel) rfl
theorem kf_RX0_28 : sy_FR RX0 28 0 5 := ⟨RX0, TX0, 15, tyX0, kc_0, by decide, sy_mem 131 (by decide +kernel) rfl⟩
theorem kf_RX0_31 : sy_FR RX0 31 0 6 := ⟨RX0, TX0, 15, tyX0, kc_0, by decide, sy_mem 134 (by decide +kernel) rfl⟩
theorem kf_RX0_34 : sy_FR RX0 34 0 7 := ⟨RX0, TX0, 15, tyX0, kc_0, by decide, sy_mem 136 (by decide +kernel) rfl⟩
theorem ki_X6_within : sy_MI yX6_within cX6_within 3 (some .boolean) 3 := ⟨sy_mem 381 (by decide +kernel) rfl, sy_mem 68 (by decide +kernel) rfl, by decide +kernel, by decide⟩
theorem kv_X6_within : Cond.static yX6_within ∈ sy_T := sy_mem 380 (by decide +kernel) rfl
theorem kl_RX0_73 : Cond.methodLink RX0 73 yX0_clearNotes ∈ sy_T := sy_mem 431 (by decide +kernel) rfl
theorem kl_RX0_76 : Cond.methodLink RX0 76 yX0_addNote ∈ sy_T := sy_mem 438 (by decide +kernel) rfl
theorem ki_X0_addNote : sy_MI yX0_addNote cX0_addNote 3 none 2 := ⟨sy_mem 441 (by decide +kernel) rfl, sy_mem 70 (by decide +kernel) rfl, by decide +kernel, by decide⟩
theorem kv_X0_addNote : sy_MV yX0_addNote := ⟨sy_mem 439 (by decide +kernel) rfl, sy_mem 440 (by decide +kernel) rfl⟩
theorem ki_X0_clearNotes : sy_MI yX0_clearNotes cX0_clearNotes 1 none 0 := ⟨sy_mem 434 (by decide +kernel) rfl, sy_mem 70 (by decide +kernel) rfl, by decide +kernel, by decide⟩
theorem kv_X0_clearNotes : sy_MV yX0_clearNotes := ⟨sy_mem 432 (by decide +kernel) rfl, sy_mem 433 (by decide +kernel) rfl⟩
theorem kp_RX6_77 : sy_FP RX6 77 6 14 .boolean := ⟨RX6, TX6, 17, tyX6, kc_6, by decide, sy_mem 337 (by decide +kernel) rfl, rfl, rfl⟩
theorem kp_RX6_81 : sy_FP RX6 81 6 15 .boolean := ⟨RX6, TX6, 17, tyX6, kc_6, by decide, sy_mem 338 (by decide +kernel) rfl, rfl, rfl⟩
theorem kf_RX6_51 : sy_FR RX6 51 6 7 := ⟨RX6, TX6, 17, tyX6, kc_6, by decide, sy_mem 330 (by decide +kernel) rfl⟩
theorem kp_RX6_196 : sy_FP RX6 196 1 0 .boolean := ⟨RX1, TX1, 4, tyX1, kc_1, by decide, sy_mem 283 (by decide +kernel) rfl, rfl, rfl⟩
theorem kf_RX6_55 : sy_FR RX6 55 6 8 := ⟨RX6, TX6, 17, tyX6, kc_6, by decide, sy_mem 331 (by decide +kernel) rfl⟩
theorem kf_RX6_58 : sy_FR RX6 58 6 9 := ⟨RX6, TX6, 17, tyX6, kc_6, by decide, sy_mem 332 (by decide +kernel) rfl⟩
theorem kf_RX6_61 : sy_FR RX6 61 6 10 := ⟨RX6, TX6, 17, tyX6, kc_6, by decide, sy_mem 333 (by decide +kernel) rfl⟩
theorem kf_RX6_24 : sy_FR RX6 24 6 2 := ⟨RX6, TX6, 17, tyX6, kc_6, by decide, sy_mem 325 (by decide +kernel) rfl⟩
theorem kl_RX6_373 : Cond.methodLink RX6 373 yX0_takePlayers ∈ sy_T := sy_mem 394 (by decide +kernel) rfl
theorem kl_RX6_377 : Cond.methodLink RX6 377 yX0_takeNotes ∈ sy_T := sy_mem 427 (by decide +kernel) rfl
theorem kl_RX6_132 : Cond.methodLink RX6 132 yX6_unlearn ∈ sy_T := sy_mem 443 (by decide +kernel) rfl
theorem ki_X6_unlearn : sy_MI yX6_unlearn cX6_unlearn 1 none 0 := ⟨sy_mem 446 (by decide +kernel) rfl, sy_mem 68 (by decide +kernel) rfl, by decide +kernel, by decide⟩
theorem kv_X6_unlearn : sy_MV yX6_unlearn := ⟨sy_mem 445 (by decide +kernel) rfl, sy_mem 3 (by decide +kernel) rfl⟩
theorem ki_X0_takeNotes : sy_MI yX0_takeNotes cX0_takeNotes 4 none 1 := ⟨sy_mem 430 (by decide +kernel) rfl, sy_mem 70 (by decide +kernel) rfl, by decide +kernel, by decide⟩
theorem kv_X0_takeNotes : sy_MV yX0_takeNotes := ⟨sy_mem 428 (by decide +kernel) rfl, sy_mem 429 (by decide +kernel) rfl⟩
theorem ki_X0_takePlayers : sy_MI yX0_takePlayers cX0_takePlayers 3 none 1 := ⟨sy_mem 397 (by decide +kernel) rfl, sy_mem 70 (by decide +kernel) rfl, by decide +kernel, by decide⟩
theorem kv_X0_takePlayers : sy_MV yX0_takePlayers := ⟨sy_mem 395 (by decide +kernel) rfl, sy_mem 396 (by decide +kernel) rfl⟩
theorem kl_RX6_89 : Cond.methodLink RX6 89 yX6_within ∈ sy_T := sy_mem 379 (by decide +kernel) rfl
theorem kl_RX6_93 : Cond.methodLink RX6 93 yX6_textOf ∈ sy_T := sy_mem 382 (by decide +kernel) rfl
theorem kl_RX6_97 : Cond.methodLink RX6 97 yX5_append ∈ sy_T := sy_mem 386 (by decide +kernel) rfl
theorem kl_RX6_101 : Cond.methodLink RX6 101 yX6_takeTexts ∈ sy_T := sy_mem 390 (by decide +kernel) rfl
theorem kf_RX6_104 : sy_FR RX6 104 5 4 := ⟨RX5, TX5, 5, tyX5, kc_5, by decide, sy_mem 99 (by decide +kernel) rfl⟩
theorem ki_X6_takeTexts : sy_MI yX6_takeTexts cX6_takeTexts 1 none 0 := ⟨sy_mem 393 (by decide +kernel) rfl, sy_mem 68 (by decide +kernel) rfl, by decide +kernel, by decide⟩
theorem kv_X6_takeTexts : sy_MV yX6_takeTexts := ⟨sy_mem 392 (by decide +kernel) rfl, sy_mem 1 (by decide +kernel) rfl⟩
theorem ki_X5_append : sy_MI yX5_append cX5_append 2 (some .boolean) 1 := ⟨sy_mem 389 (by decide +kernel) rfl, sy_mem 69 (by decide +kernel) rfl, by decide +kernel, by decide⟩
theorem kv_X5_append : sy_MV yX5_append := ⟨sy_mem 387 (by decide +kernel) rfl, sy_mem 388 (by decide +kernel) rfl⟩
theorem ki_X6_textOf : sy_MI yX6_textOf cX6_textOf 2 (some (.object "BreathBand$Text")) 1 := ⟨sy_mem 385 (by decide +kernel) rfl, sy_mem 68 (by decide +kernel) rfl, by decide +kernel, by decide⟩
theorem kv_X6_textOf : sy_MV yX6_textOf := ⟨sy_mem 384 (by decide +kernel) rfl, sy_mem 0 (by decide +kernel) rfl⟩
theorem kl_RX7_76 : Cond.methodLink RX7 76 yX7_in ∈ sy_T := sy_mem 902 (by decide +kernel) rfl
theorem ki_X7_in : sy_MI yX7_in cX7_in 6 (some .boolean) 3 := ⟨sy_mem 904 (by decide +kernel) rfl, sy_mem 75 (by decide +kernel) rfl, by decide +kernel, by decide⟩
theorem kv_X7_in : Cond.static yX7_in ∈ sy_T := sy_mem 903 (by decide +kernel) rfl
theorem kl_RX7_104 : Cond.methodLink RX7 104 yX7_isTwo ∈ sy_T := sy_mem 938 (by decide +kernel) rfl
theorem kn_RX7_107 : Cond.constantLong RX7 107 255 ∈ sy_T := sy_mem 941 (by decide +kernel) rfl
theorem kf_RX7_25 : sy_FR RX7 25 7 6 := ⟨RX7, TX7, 32, tyX7, kc_7, by decide, sy_mem 803 (by decide +kernel) rfl⟩
theorem kf_RX7_22 : sy_FR RX7 22 7 5 := ⟨RX7, TX7, 32, tyX7, kc_7, by decide, sy_mem 802 (by decide +kernel) rfl⟩
theorem ki_X7_isTwo : sy_MI yX7_isTwo cX7_isTwo 1 (some .boolean) 1 := ⟨sy_mem 940 (by decide +kernel) rfl, sy_mem 75 (by decide +kernel) rfl, by decide +kernel, by decide⟩
theorem kv_X7_isTwo : Cond.static yX7_isTwo ∈ sy_T := sy_mem 939 (by decide +kernel) rfl
theorem kp_RX6_104 : sy_FP RX6 104 5 4 .int := ⟨RX5, TX5, 5, tyX5, kc_5, by decide, sy_mem 99 (by decide +kernel) rfl, rfl, rfl⟩
theorem kl_RX6_107 : Cond.methodLink RX6 107 yX5_faultPlace ∈ sy_T := sy_mem 459 (by decide +kernel) rfl
theorem kn_RX7_109 : Cond.constantLong RX7 109 48 ∈ sy_T := sy_mem 965 (by decide +kernel) rfl
theorem kn_RX7_111 : Cond.constantLong RX7 111 51 ∈ sy_T := sy_mem 966 (by decide +kernel) rfl
theorem kp_RX7_113 : sy_FP RX7 113 7 7 .int := ⟨RX7, TX7, 32, tyX7, kc_7, by decide, sy_mem 804 (by decide +kernel) rfl, rfl, rfl⟩
theorem kl_RX7_116 : Cond.methodLink RX7 116 yX7_playerOf ∈ sy_T := sy_mem 962 (by decide +kernel) rfl
theorem kf_RX7_113 : sy_FR RX7 113 7 7 := ⟨RX7, TX7, 32, tyX7, kc_7, by decide, sy_mem 804 (by decide +kernel) rfl⟩
theorem kf_RX7_28 : sy_FR RX7 28 7 8 := ⟨RX7, TX7, 32, tyX7, kc_7, by decide, sy_mem 805 (by decide +kernel) rfl⟩
theorem ki_X7_playerOf : sy_MI yX7_playerOf cX7_playerOf 2 (some .int) 2 := ⟨sy_mem 964 (by decide +kernel) rfl, sy_mem 75 (by decide +kernel) rfl, by decide +kernel, by decide⟩
theorem kv_X7_playerOf : Cond.static yX7_playerOf ∈ sy_T := sy_mem 963 (by decide +kernel) rfl
theorem kn_RX7_119 : Cond.constantLong RX7 119 97 ∈ sy_T := sy_mem 977 (by decide +kernel) rfl
theorem kl_RX7_121 : Cond.methodLink RX7 121 yX7_letterOf ∈ sy_T := sy_mem 974 (by decide +kernel) rfl
theorem ki_X7_letterOf : sy_MI yX7_letterOf cX7_letterOf 2 (some .int) 2 := ⟨sy_mem 976 (by decide +kernel) rfl, sy_mem 75 (by decide +kernel) rfl, by decide +kernel, by decide⟩
theorem kv_X7_letterOf : Cond.static yX7_letterOf ∈ sy_T := sy_mem 975 (by decide +kernel) rfl
theorem kp_RX7_124 : sy_FP RX7 124 7 9 .int := ⟨RX7, TX7, 32, tyX7, kc_7, by decide, sy_mem 806 (by decide +kernel) rfl, rfl, rfl⟩
theorem kl_RX7_127 : Cond.methodLink RX7 127 yX7_noteOf ∈ sy_T := sy_mem 971 (by decide +kernel) rfl
theorem kf_RX7_124 : sy_FR RX7 124 7 9 := ⟨RX7, TX7, 32, tyX7, kc_7, by decide, sy_mem 806 (by decide +kernel) rfl⟩
theorem kf_RX7_31 : sy_FR RX7 31 7 10 := ⟨RX7, TX7, 32, tyX7, kc_7, by decide, sy_mem 807 (by decide +kernel) rfl⟩
theorem ki_X7_noteOf : sy_MI yX7_noteOf cX7_noteOf 2 (some .int) 2 := ⟨sy_mem 973 (by decide +kernel) rfl, sy_mem 75 (by decide +kernel) rfl, by decide +kernel, by decide⟩
theorem kv_X7_noteOf : Cond.static yX7_noteOf ∈ sy_T := sy_mem 972 (by decide +kernel) rfl
theorem kl_RX7_134 : Cond.methodLink RX7 134 yX7_readsNotes ∈ sy_T := sy_mem 967 (by decide +kernel) rfl
theorem ki_X7_readsNotes : sy_MI yX7_readsNotes cX7_readsNotes 5 (some .int) 0 := ⟨sy_mem 970 (by decide +kernel) rfl, sy_mem 75 (by decide +kernel) rfl, by decide +kernel, by decide⟩
theorem kv_X7_readsNotes : sy_MV yX7_readsNotes := ⟨sy_mem 969 (by decide +kernel) rfl, sy_mem 32 (by decide +kernel) rfl⟩
theorem kl_RX7_130 : Cond.methodLink RX7 130 yX7_readsPlayers ∈ sy_T := sy_mem 958 (by decide +kernel) rfl
theorem ki_X7_readsPlayers : sy_MI yX7_readsPlayers cX7_readsPlayers 5 (some .int) 0 := ⟨sy_mem 961 (by decide +kernel) rfl, sy_mem 75 (by decide +kernel) rfl, by decide +kernel, by decide⟩
theorem kv_X7_readsPlayers : sy_MV yX7_readsPlayers := ⟨sy_mem 960 (by decide +kernel) rfl, sy_mem 31 (by decide +kernel) rfl⟩
theorem kl_RX7_137 : Cond.methodLink RX7 137 yX7_readsText ∈ sy_T := sy_mem 954 (by decide +kernel) rfl
theorem ki_X7_readsText : sy_MI yX7_readsText cX7_readsText 2 (some .int) 1 := ⟨sy_mem 957 (by decide +kernel) rfl, sy_mem 75 (by decide +kernel) rfl, by decide +kernel, by decide⟩
theorem kv_X7_readsText : sy_MV yX7_readsText := ⟨sy_mem 956 (by decide +kernel) rfl, sy_mem 30 (by decide +kernel) rfl⟩
theorem kf_RX6_193 : sy_FR RX6 193 0 0 := ⟨RX0, TX0, 15, tyX0, kc_0, by decide, sy_mem 120 (by decide +kernel) rfl⟩
theorem kl_RX6_111 : Cond.methodLink RX6 111 yX6_isPlayer ∈ sy_T := sy_mem 464 (by decide +kernel) rfl
theorem kf_RX6_117 : sy_FR RX6 117 0 2 := ⟨RX0, TX0, 15, tyX0, kc_0, by decide, sy_mem 125 (by decide +kernel) rfl⟩
theorem kf_RX6_114 : sy_FR RX6 114 0 1 := ⟨RX0, TX0, 15, tyX0, kc_0, by decide, sy_mem 122 (by decide +kernel) rfl⟩
theorem ki_X6_isPlayer : sy_MI yX6_isPlayer cX6_isPlayer 2 (some .boolean) 1 := ⟨sy_mem 467 (by decide +kernel) rfl, sy_mem 68 (by decide +kernel) rfl, by decide +kernel, by decide⟩
theorem kv_X6_isPlayer : sy_MV yX6_isPlayer := ⟨sy_mem 466 (by decide +kernel) rfl, sy_mem 4 (by decide +kernel) rfl⟩
theorem kl_RX7_142 : Cond.methodLink RX7 142 yX7_isPlayer ∈ sy_T := sy_mem 982 (by decide +kernel) rfl
theorem ki_X7_isPlayer : sy_MI yX7_isPlayer cX7_isPlayer 2 (some .boolean) 1 := ⟨sy_mem 985 (by decide +kernel) rfl, sy_mem 75 (by decide +kernel) rfl, by decide +kernel, by decide⟩
theorem kv_X7_isPlayer : sy_MV yX7_isPlayer := ⟨sy_mem 984 (by decide +kernel) rfl, sy_mem 33 (by decide +kernel) rfl⟩
theorem kf_RX6_120 : sy_FR RX6 120 0 5 := ⟨RX0, TX0, 15, tyX0, kc_0, by decide, sy_mem 133 (by decide +kernel) rfl⟩
theorem kf_RX6_126 : sy_FR RX6 126 0 7 := ⟨RX0, TX0, 15, tyX0, kc_0, by decide, sy_mem 138 (by decide +kernel) rfl⟩
theorem kf_RX6_123 : sy_FR RX6 123 0 6 := ⟨RX0, TX0, 15, tyX0, kc_0, by decide, sy_mem 135 (by decide +kernel) rfl⟩
theorem kn_RX7_145 : Cond.constantLong RX7 145 15 ∈ sy_T := sy_mem 990 (by decide +kernel) rfl
theorem kl_RX7_147 : Cond.methodLink RX7 147 yX7_noteBy ∈ sy_T := sy_mem 991 (by decide +kernel) rfl
theorem ki_X7_noteBy : sy_MI yX7_noteBy cX7_noteBy 3 (some .int) 2 := ⟨sy_mem 994 (by decide +kernel) rfl, sy_mem 75 (by decide +kernel) rfl, by decide +kernel, by decide⟩
theorem kv_X7_noteBy : sy_MV yX7_noteBy := ⟨sy_mem 993 (by decide +kernel) rfl, sy_mem 34 (by decide +kernel) rfl⟩
theorem kf_RX6_129 : sy_FR RX6 129 0 9 := ⟨RX0, TX0, 15, tyX0, kc_0, by decide, sy_mem 143 (by decide +kernel) rfl⟩
theorem kp_RX6_129 : sy_FP RX6 129 0 9 .int := ⟨RX0, TX0, 15, tyX0, kc_0, by decide, sy_mem 143 (by decide +kernel) rfl, rfl, rfl⟩
theorem kn_RX7_150 : Cond.constantLong RX7 150 99 ∈ sy_T := sy_mem 999 (by decide +kernel) rfl
theorem kf_RX7_67 : sy_FR RX7 67 7 11 := ⟨RX7, TX7, 32, tyX7, kc_7, by decide, sy_mem 808 (by decide +kernel) rfl⟩
theorem kp_RX7_67 : sy_FP RX7 67 7 11 .int := ⟨RX7, TX7, 32, tyX7, kc_7, by decide, sy_mem 808 (by decide +kernel) rfl, rfl, rfl⟩
theorem kf_RX0_43 : sy_FR RX0 43 0 10 := ⟨RX0, TX0, 15, tyX0, kc_0, by decide, sy_mem 144 (by decide +kernel) rfl⟩
theorem kf_RX0_46 : sy_FR RX0 46 0 11 := ⟨RX0, TX0, 15, tyX0, kc_0, by decide, sy_mem 147 (by decide +kernel) rfl⟩
theorem kf_RX0_49 : sy_FR RX0 49 0 12 := ⟨RX0, TX0, 15, tyX0, kc_0, by decide, sy_mem 149 (by decide +kernel) rfl⟩
theorem kp_RX0_43 : sy_FP RX0 43 0 10 .int := ⟨RX0, TX0, 15, tyX0, kc_0, by decide, sy_mem 144 (by decide +kernel) rfl, rfl, rfl⟩
theorem ki_X6_isEvent : sy_MI yX6_isEvent cX6_isEvent 2 (some .boolean) 2 := ⟨sy_mem 482 (by decide +kernel) rfl, sy_mem 68 (by decide +kernel) rfl, by decide +kernel, by decide⟩
theorem kv_X6_isEvent : Cond.static yX6_isEvent ∈ sy_T := sy_mem 481 (by decide +kernel) rfl
theorem kl_RX6_135 : Cond.methodLink RX6 135 yX6_isEvent ∈ sy_T := sy_mem 480 (by decide +kernel) rfl
theorem kl_RX6_139 : Cond.methodLink RX6 139 yX0_addEvent ∈ sy_T := sy_mem 483 (by decide +kernel) rfl
theorem kf_RX6_142 : sy_FR RX6 142 0 10 := ⟨RX0, TX0, 15, tyX0, kc_0, by decide, sy_mem 146 (by decide +kernel) rfl⟩
theorem ki_X0_addEvent : sy_MI yX0_addEvent cX0_addEvent 3 (some .boolean) 2 := ⟨sy_mem 486 (by decide +kernel) rfl, sy_mem 70 (by decide +kernel) rfl, by decide +kernel, by decide⟩
theorem kv_X0_addEvent : sy_MV yX0_addEvent := ⟨sy_mem 484 (by decide +kernel) rfl, sy_mem 485 (by decide +kernel) rfl⟩
theorem kn_RX7_140 : Cond.constantLong RX7 140 23 ∈ sy_T := sy_mem 1007 (by decide +kernel) rfl
theorem kn_RX7_89 : Cond.constantLong RX7 89 2 ∈ sy_T := sy_mem 905 (by decide +kernel) rfl
theorem kl_RX7_152 : Cond.methodLink RX7 152 yX7_isBeat ∈ sy_T := sy_mem 1004 (by decide +kernel) rfl
theorem kf_RX7_155 : sy_FR RX7 155 7 12 := ⟨RX7, TX7, 32, tyX7, kc_7, by decide, sy_mem 809 (by decide +kernel) rfl⟩
theorem kf_RX7_34 : sy_FR RX7 34 7 13 := ⟨RX7, TX7, 32, tyX7, kc_7, by decide, sy_mem 810 (by decide +kernel) rfl⟩
theorem kp_RX7_155 : sy_FP RX7 155 7 12 .int := ⟨RX7, TX7, 32, tyX7, kc_7, by decide, sy_mem 809 (by decide +kernel) rfl, rfl, rfl⟩
theorem ki_X7_isBeat : sy_MI yX7_isBeat cX7_isBeat 1 (some .boolean) 1 := ⟨sy_mem 1006 (by decide +kernel) rfl, sy_mem 75 (by decide +kernel) rfl, by decide +kernel, by decide⟩
theorem kv_X7_isBeat : Cond.static yX7_isBeat ∈ sy_T := sy_mem 1005 (by decide +kernel) rfl
theorem kp_RX6_142 : sy_FP RX6 142 0 10 .int := ⟨RX0, TX0, 15, tyX0, kc_0, by decide, sy_mem 146 (by decide +kernel) rfl, rfl, rfl⟩
theorem kp_RX6_84 : sy_FP RX6 84 6 16 .int := ⟨RX6, TX6, 17, tyX6, kc_6, by decide, sy_mem 339 (by decide +kernel) rfl, rfl, rfl⟩
theorem kf_RX6_73 : sy_FR RX6 73 6 13 := ⟨RX6, TX6, 17, tyX6, kc_6, by decide, sy_mem 336 (by decide +kernel) rfl⟩
theorem kf_RX6_145 : sy_FR RX6 145 4 0 := ⟨RX4, TX4, 4, tyX4, kc_4, by decide, sy_mem 307 (by decide +kernel) rfl⟩
theorem kf_RX6_152 : sy_FR RX6 152 4 2 := ⟨RX4, TX4, 4, tyX4, kc_4, by decide, sy_mem 311 (by decide +kernel) rfl⟩
theorem kf_RX6_153 : sy_FR RX6 153 4 3 := ⟨RX4, TX4, 4, tyX4, kc_4, by decide, sy_mem 313 (by decide +kernel) rfl⟩
theorem kl_RX6_148 : Cond.methodLink RX6 148 yX6_found ∈ sy_T := sy_mem 496 (by decide +kernel) rfl
theorem ki_X6_found : sy_MI yX6_found cX6_found 2 (some .int) 1 := ⟨sy_mem 499 (by decide +kernel) rfl, sy_mem 68 (by decide +kernel) rfl, by decide +kernel, by decide⟩
theorem kv_X6_found : sy_MV yX6_found := ⟨sy_mem 498 (by decide +kernel) rfl, sy_mem 5 (by decide +kernel) rfl⟩
theorem kn_RX7_83 : Cond.constantLong RX7 83 3 ∈ sy_T := sy_mem 901 (by decide +kernel) rfl
theorem kp_RX7_80 : sy_FP RX7 80 7 4 .int := ⟨RX7, TX7, 32, tyX7, kc_7, by decide, sy_mem 801 (by decide +kernel) rfl, rfl, rfl⟩
theorem kl_RX7_85 : Cond.methodLink RX7 85 yX7_isSheet ∈ sy_T := sy_mem 898 (by decide +kernel) rfl
theorem kf_RX7_7 : sy_FR RX7 7 7 0 := ⟨RX7, TX7, 32, tyX7, kc_7, by decide, sy_mem 797 (by decide +kernel) rfl⟩
theorem kf_RX7_13 : sy_FR RX7 13 7 1 := ⟨RX7, TX7, 32, tyX7, kc_7, by decide, sy_mem 798 (by decide +kernel) rfl⟩
theorem kf_RX7_16 : sy_FR RX7 16 7 2 := ⟨RX7, TX7, 32, tyX7, kc_7, by decide, sy_mem 799 (by decide +kernel) rfl⟩
theorem kl_RX7_158 : Cond.methodLink RX7 158 yX7_event ∈ sy_T := sy_mem 1016 (by decide +kernel) rfl
theorem ki_X7_event : sy_MI yX7_event cX7_event 3 (some .int) 2 := ⟨sy_mem 1003 (by decide +kernel) rfl, sy_mem 75 (by decide +kernel) rfl, by decide +kernel, by decide⟩
theorem kv_X7_event : sy_MV yX7_event := ⟨sy_mem 1001 (by decide +kernel) rfl, sy_mem 1002 (by decide +kernel) rfl⟩
theorem kl_RX7_91 : Cond.methodLink RX7 91 yX7_finds ∈ sy_T := sy_mem 906 (by decide +kernel) rfl
theorem ki_X7_finds : sy_MI yX7_finds cX7_finds 2 (some .int) 1 := ⟨sy_mem 909 (by decide +kernel) rfl, sy_mem 75 (by decide +kernel) rfl, by decide +kernel, by decide⟩
theorem kv_X7_finds : sy_MV yX7_finds := ⟨sy_mem 908 (by decide +kernel) rfl, sy_mem 28 (by decide +kernel) rfl⟩
theorem ki_X7_isSheet : sy_MI yX7_isSheet cX7_isSheet 1 (some .boolean) 1 := ⟨sy_mem 900 (by decide +kernel) rfl, sy_mem 75 (by decide +kernel) rfl, by decide +kernel, by decide⟩
theorem kv_X7_isSheet : Cond.static yX7_isSheet ∈ sy_T := sy_mem 899 (by decide +kernel) rfl
theorem kf_RX3_21 : sy_FR RX3 21 3 3 := ⟨RX3, TX3, 17, tyX3, kc_3, by decide, sy_mem 200 (by decide +kernel) rfl⟩
theorem kl_RX3_79 : Cond.methodLink RX3 79 yJ7_fill_53178 ∈ sy_T := sy_mem 516 (by decide +kernel) rfl
theorem kf_RX3_24 : sy_FR RX3 24 3 4 := ⟨RX3, TX3, 17, tyX3, kc_3, by decide, sy_mem 203 (by decide +kernel) rfl⟩
theorem kf_RX3_27 : sy_FR RX3 27 3 5 := ⟨RX3, TX3, 17, tyX3, kc_3, by decide, sy_mem 205 (by decide +kernel) rfl⟩
theorem kf_RX3_30 : sy_FR RX3 30 3 6 := ⟨RX3, TX3, 17, tyX3, kc_3, by decide, sy_mem 207 (by decide +kernel) rfl⟩
theorem kf_RX3_33 : sy_FR RX3 33 3 12 := ⟨RX3, TX3, 17, tyX3, kc_3, by decide, sy_mem 219 (by decide +kernel) rfl⟩
theorem kp_RX3_85 : sy_FP RX3 85 3 7 .int := ⟨RX3, TX3, 17, tyX3, kc_3, by decide, sy_mem 209 (by decide +kernel) rfl, rfl, rfl⟩
theorem kp_RX3_88 : sy_FP RX3 88 3 8 .int := ⟨RX3, TX3, 17, tyX3, kc_3, by decide, sy_mem 211 (by decide +kernel) rfl, rfl, rfl⟩
theorem kp_RX3_91 : sy_FP RX3 91 3 9 .int := ⟨RX3, TX3, 17, tyX3, kc_3, by decide, sy_mem 213 (by decide +kernel) rfl, rfl, rfl⟩
theorem kp_RX3_94 : sy_FP RX3 94 3 10 .int := ⟨RX3, TX3, 17, tyX3, kc_3, by decide, sy_mem 215 (by decide +kernel) rfl, rfl, rfl⟩
theorem kp_RX3_97 : sy_FP RX3 97 3 11 .int := ⟨RX3, TX3, 17, tyX3, kc_3, by decide, sy_mem 217 (by decide +kernel) rfl, rfl, rfl⟩
theorem kp_RX3_66 : sy_FP RX3 66 3 13 .int := ⟨RX3, TX3, 17, tyX3, kc_3, by decide, sy_mem 220 (by decide +kernel) rfl, rfl, rfl⟩
theorem kp_RX3_63 : sy_FP RX3 63 3 14 .int := ⟨RX3, TX3, 17, tyX3, kc_3, by decide, sy_mem 221 (by decide +kernel) rfl, rfl, rfl⟩
theorem kp_RX3_73 : sy_FP RX3 73 3 15 .int := ⟨RX3, TX3, 17, tyX3, kc_3, by decide, sy_mem 222 (by decide +kernel) rfl, rfl, rfl⟩
theorem kf_RX3_100 : sy_FR RX3 100 0 9 := ⟨RX0, TX0, 15, tyX0, kc_0, by decide, sy_mem 142 (by decide +kernel) rfl⟩
theorem kp_RX3_76 : sy_FP RX3 76 3 16 .int := ⟨RX3, TX3, 17, tyX3, kc_3, by decide, sy_mem 223 (by decide +kernel) rfl, rfl, rfl⟩
theorem kf_RX3_63 : sy_FR RX3 63 3 14 := ⟨RX3, TX3, 17, tyX3, kc_3, by decide, sy_mem 221 (by decide +kernel) rfl⟩
theorem kf_RX3_66 : sy_FR RX3 66 3 13 := ⟨RX3, TX3, 17, tyX3, kc_3, by decide, sy_mem 220 (by decide +kernel) rfl⟩
theorem kf_RX3_103 : sy_FR RX3 103 0 10 := ⟨RX0, TX0, 15, tyX0, kc_0, by decide, sy_mem 145 (by decide +kernel) rfl⟩
theorem kf_RX3_106 : sy_FR RX3 106 0 13 := ⟨RX0, TX0, 15, tyX0, kc_0, by decide, sy_mem 152 (by decide +kernel) rfl⟩
theorem kf_RX3_109 : sy_FR RX3 109 0 11 := ⟨RX0, TX0, 15, tyX0, kc_0, by decide, sy_mem 148 (by decide +kernel) rfl⟩
theorem kf_RX3_112 : sy_FR RX3 112 0 12 := ⟨RX0, TX0, 15, tyX0, kc_0, by decide, sy_mem 150 (by decide +kernel) rfl⟩
theorem kl_RX3_115 : Cond.methodLink RX3 115 yX3_gather ∈ sy_T := sy_mem 521 (by decide +kernel) rfl
theorem ki_X3_gather : sy_MI yX3_gather cX3_gather 3 none 2 := ⟨sy_mem 524 (by decide +kernel) rfl, sy_mem 71 (by decide +kernel) rfl, by decide +kernel, by decide⟩
theorem kv_X3_gather : sy_MV yX3_gather := ⟨sy_mem 523 (by decide +kernel) rfl, sy_mem 9 (by decide +kernel) rfl⟩
theorem kf_RX3_119 : sy_FR RX3 119 0 14 := ⟨RX0, TX0, 15, tyX0, kc_0, by decide, sy_mem 155 (by decide +kernel) rfl⟩
theorem kf_RX3_76 : sy_FR RX3 76 3 16 := ⟨RX3, TX3, 17, tyX3, kc_3, by decide, sy_mem 223 (by decide +kernel) rfl⟩
theorem kl_RX3_122 : Cond.methodLink RX3 122 Lib.Math.min.name ∈ sy_T := sy_mem 529 (by decide +kernel) rfl
theorem kf_RX3_97 : sy_FR RX3 97 3 11 := ⟨RX3, TX3, 17, tyX3, kc_3, by decide, sy_mem 217 (by decide +kernel) rfl⟩
theorem kf_RX3_128 : sy_FR RX3 128 0 0 := ⟨RX0, TX0, 15, tyX0, kc_0, by decide, sy_mem 119 (by decide +kernel) rfl⟩
theorem kf_RX3_131 : sy_FR RX3 131 0 1 := ⟨RX0, TX0, 15, tyX0, kc_0, by decide, sy_mem 123 (by decide +kernel) rfl⟩
theorem kf_RX3_134 : sy_FR RX3 134 0 3 := ⟨RX0, TX0, 15, tyX0, kc_0, by decide, sy_mem 128 (by decide +kernel) rfl⟩
theorem kf_RX3_73 : sy_FR RX3 73 3 15 := ⟨RX3, TX3, 17, tyX3, kc_3, by decide, sy_mem 222 (by decide +kernel) rfl⟩
theorem kl_RX3_137 : Cond.methodLink RX3 137 Lib.Math.abs.name ∈ sy_T := sy_mem 534 (by decide +kernel) rfl
theorem kf_RX3_91 : sy_FR RX3 91 3 9 := ⟨RX3, TX3, 17, tyX3, kc_3, by decide, sy_mem 213 (by decide +kernel) rfl⟩
theorem kf_RX3_85 : sy_FR RX3 85 3 7 := ⟨RX3, TX3, 17, tyX3, kc_3, by decide, sy_mem 209 (by decide +kernel) rfl⟩
theorem kf_RX3_88 : sy_FR RX3 88 3 8 := ⟨RX3, TX3, 17, tyX3, kc_3, by decide, sy_mem 211 (by decide +kernel) rfl⟩
theorem kf_RX3_141 : sy_FR RX3 141 0 4 := ⟨RX0, TX0, 15, tyX0, kc_0, by decide, sy_mem 130 (by decide +kernel) rfl⟩
theorem kf_RX3_144 : sy_FR RX3 144 0 2 := ⟨RX0, TX0, 15, tyX0, kc_0, by decide, sy_mem 126 (by decide +kernel) rfl⟩
theorem kf_RX3_94 : sy_FR RX3 94 3 10 := ⟨RX3, TX3, 17, tyX3, kc_3, by decide, sy_mem 215 (by decide +kernel) rfl⟩
theorem kl_RX3_36 : Cond.methodLink RX3 36 yX3_clear ∈ sy_T := sy_mem 512 (by decide +kernel) rfl
theorem kl_RX3_40 : Cond.methodLink RX3 40 yX3_gatherEvents ∈ sy_T := sy_mem 517 (by decide +kernel) rfl
theorem kl_RX3_43 : Cond.methodLink RX3 43 yX3_steal ∈ sy_T := sy_mem 525 (by decide +kernel) rfl
theorem kf_RX3_47 : sy_FR RX3 47 0 8 := ⟨RX0, TX0, 15, tyX0, kc_0, by decide, sy_mem 140 (by decide +kernel) rfl⟩
theorem kf_RX3_52 : sy_FR RX3 52 0 5 := ⟨RX0, TX0, 15, tyX0, kc_0, by decide, sy_mem 132 (by decide +kernel) rfl⟩
theorem kf_RX3_56 : sy_FR RX3 56 0 7 := ⟨RX0, TX0, 15, tyX0, kc_0, by decide, sy_mem 137 (by decide +kernel) rfl⟩
theorem kl_RX3_59 : Cond.methodLink RX3 59 yX3_soundOne ∈ sy_T := sy_mem 530 (by decide +kernel) rfl
theorem ki_X3_soundOne : sy_MI yX3_soundOne cX3_soundOne 9 none 3 := ⟨sy_mem 533 (by decide +kernel) rfl, sy_mem 71 (by decide +kernel) rfl, by decide +kernel, by decide⟩
theorem kv_X3_soundOne : sy_MV yX3_soundOne := ⟨sy_mem 532 (by decide +kernel) rfl, sy_mem 11 (by decide +kernel) rfl⟩
theorem kl_RX3_69 : Cond.methodLink RX3 69 yX3_passOn ∈ sy_T := sy_mem 537 (by decide +kernel) rfl
theorem kf_RX3_9 : sy_FR RX3 9 3 0 := ⟨RX3, TX3, 17, tyX3, kc_3, by decide, sy_mem 194 (by decide +kernel) rfl⟩
theorem kf_RX3_15 : sy_FR RX3 15 3 1 := ⟨RX3, TX3, 17, tyX3, kc_3, by decide, sy_mem 196 (by decide +kernel) rfl⟩
theorem kf_RX3_18 : sy_FR RX3 18 3 2 := ⟨RX3, TX3, 17, tyX3, kc_3, by decide, sy_mem 198 (by decide +kernel) rfl⟩
theorem ki_X3_passOn : sy_MI yX3_passOn cX3_passOn 7 (some .int) 2 := ⟨sy_mem 540 (by decide +kernel) rfl, sy_mem 71 (by decide +kernel) rfl, by decide +kernel, by decide⟩
theorem kv_X3_passOn : sy_MV yX3_passOn := ⟨sy_mem 539 (by decide +kernel) rfl, sy_mem 12 (by decide +kernel) rfl⟩
theorem ki_X3_steal : sy_MI yX3_steal cX3_steal 3 none 1 := ⟨sy_mem 528 (by decide +kernel) rfl, sy_mem 71 (by decide +kernel) rfl, by decide +kernel, by decide⟩
theorem kv_X3_steal : sy_MV yX3_steal := ⟨sy_mem 527 (by decide +kernel) rfl, sy_mem 10 (by decide +kernel) rfl⟩
theorem ki_X3_gatherEvents : sy_MI yX3_gatherEvents cX3_gatherEvents 3 none 1 := ⟨sy_mem 520 (by decide +kernel) rfl, sy_mem 71 (by decide +kernel) rfl, by decide +kernel, by decide⟩
theorem kv_X3_gatherEvents : sy_MV yX3_gatherEvents := ⟨sy_mem 519 (by decide +kernel) rfl, sy_mem 8 (by decide +kernel) rfl⟩
theorem ki_X3_clear : sy_MI yX3_clear cX3_clear 2 none 1 := ⟨sy_mem 515 (by decide +kernel) rfl, sy_mem 71 (by decide +kernel) rfl, by decide +kernel, by decide⟩
theorem kv_X3_clear : sy_MV yX3_clear := ⟨sy_mem 514 (by decide +kernel) rfl, sy_mem 7 (by decide +kernel) rfl⟩
theorem kf_RX6_77 : sy_FR RX6 77 6 14 := ⟨RX6, TX6, 17, tyX6, kc_6, by decide, sy_mem 337 (by decide +kernel) rfl⟩
theorem kf_RX6_34 : sy_FR RX6 34 6 4 := ⟨RX6, TX6, 17, tyX6, kc_6, by decide, sy_mem 327 (by decide +kernel) rfl⟩
theorem kl_RX6_265 : Cond.methodLink RX6 265 yX3_play ∈ sy_T := sy_mem 508 (by decide +kernel) rfl
theorem ki_X3_play : sy_MI yX3_play cX3_play 5 none 1 := ⟨sy_mem 511 (by decide +kernel) rfl, sy_mem 71 (by decide +kernel) rfl, by decide +kernel, by decide⟩
theorem kv_X3_play : sy_MV yX3_play := ⟨sy_mem 509 (by decide +kernel) rfl, sy_mem 510 (by decide +kernel) rfl⟩
theorem kl_RX6_156 : Cond.methodLink RX6 156 yX6_runAsTold ∈ sy_T := sy_mem 504 (by decide +kernel) rfl
theorem kf_RX6_166 : sy_FR RX6 166 3 2 := ⟨RX3, TX3, 17, tyX3, kc_3, by decide, sy_mem 199 (by decide +kernel) rfl⟩
theorem kf_RX6_163 : sy_FR RX6 163 3 1 := ⟨RX3, TX3, 17, tyX3, kc_3, by decide, sy_mem 197 (by decide +kernel) rfl⟩
theorem kf_RX6_160 : sy_FR RX6 160 3 0 := ⟨RX3, TX3, 17, tyX3, kc_3, by decide, sy_mem 195 (by decide +kernel) rfl⟩
theorem ki_X6_runAsTold : sy_MI yX6_runAsTold cX6_runAsTold 1 (some (.object "BreathBand$Run")) 0 := ⟨sy_mem 507 (by decide +kernel) rfl, sy_mem 68 (by decide +kernel) rfl, by decide +kernel, by decide⟩
theorem kv_X6_runAsTold : sy_MV yX6_runAsTold := ⟨sy_mem 506 (by decide +kernel) rfl, sy_mem 6 (by decide +kernel) rfl⟩
theorem kf_RX7_58 : sy_FR RX7 58 7 27 := ⟨RX7, TX7, 32, tyX7, kc_7, by decide, sy_mem 824 (by decide +kernel) rfl⟩
theorem kf_RX7_160 : sy_FR RX7 160 7 14 := ⟨RX7, TX7, 32, tyX7, kc_7, by decide, sy_mem 811 (by decide +kernel) rfl⟩
theorem kl_RX7_163 : Cond.methodLink RX7 163 yX7_isIn ∈ sy_T := sy_mem 1041 (by decide +kernel) rfl
theorem ki_X7_isIn : sy_MI yX7_isIn cX7_isIn 2 (some .boolean) 2 := ⟨sy_mem 1043 (by decide +kernel) rfl, sy_mem 75 (by decide +kernel) rfl, by decide +kernel, by decide⟩
theorem kv_X7_isIn : Cond.static yX7_isIn ∈ sy_T := sy_mem 1042 (by decide +kernel) rfl
theorem kf_RX7_46 : sy_FR RX7 46 7 23 := ⟨RX7, TX7, 32, tyX7, kc_7, by decide, sy_mem 820 (by decide +kernel) rfl⟩
theorem kf_RX7_167 : sy_FR RX7 167 7 16 := ⟨RX7, TX7, 32, tyX7, kc_7, by decide, sy_mem 813 (by decide +kernel) rfl⟩
theorem kf_RX7_173 : sy_FR RX7 173 7 17 := ⟨RX7, TX7, 32, tyX7, kc_7, by decide, sy_mem 814 (by decide +kernel) rfl⟩
theorem kp_RX7_173 : sy_FP RX7 173 7 17 .int := ⟨RX7, TX7, 32, tyX7, kc_7, by decide, sy_mem 814 (by decide +kernel) rfl, rfl, rfl⟩
theorem kf_RX7_52 : sy_FR RX7 52 7 25 := ⟨RX7, TX7, 32, tyX7, kc_7, by decide, sy_mem 822 (by decide +kernel) rfl⟩
theorem kf_RX7_49 : sy_FR RX7 49 7 24 := ⟨RX7, TX7, 32, tyX7, kc_7, by decide, sy_mem 821 (by decide +kernel) rfl⟩
theorem kl_RX7_170 : Cond.methodLink RX7 170 yX7_apart ∈ sy_T := sy_mem 1051 (by decide +kernel) rfl
theorem ki_X7_apart : sy_MI yX7_apart cX7_apart 2 (some .int) 2 := ⟨sy_mem 1053 (by decide +kernel) rfl, sy_mem 75 (by decide +kernel) rfl, by decide +kernel, by decide⟩
theorem kv_X7_apart : Cond.static yX7_apart ∈ sy_T := sy_mem 1052 (by decide +kernel) rfl
theorem kl_RX7_176 : Cond.methodLink RX7 176 yX7_many ∈ sy_T := sy_mem 1037 (by decide +kernel) rfl
theorem kl_RX7_179 : Cond.methodLink RX7 179 yX7_lesser ∈ sy_T := sy_mem 1044 (by decide +kernel) rfl
theorem kf_RX7_182 : sy_FR RX7 182 7 18 := ⟨RX7, TX7, 32, tyX7, kc_7, by decide, sy_mem 815 (by decide +kernel) rfl⟩
theorem kp_RX7_182 : sy_FP RX7 182 7 18 .int := ⟨RX7, TX7, 32, tyX7, kc_7, by decide, sy_mem 815 (by decide +kernel) rfl, rfl, rfl⟩
theorem kl_RX7_185 : Cond.methodLink RX7 185 yX7_blows ∈ sy_T := sy_mem 1047 (by decide +kernel) rfl
theorem ki_X7_blows : sy_MI yX7_blows cX7_blows 7 none 1 := ⟨sy_mem 1050 (by decide +kernel) rfl, sy_mem 75 (by decide +kernel) rfl, by decide +kernel, by decide⟩
theorem kv_X7_blows : sy_MV yX7_blows := ⟨sy_mem 1049 (by decide +kernel) rfl, sy_mem 40 (by decide +kernel) rfl⟩
theorem kf_RX7_192 : sy_FR RX7 192 7 19 := ⟨RX7, TX7, 32, tyX7, kc_7, by decide, sy_mem 816 (by decide +kernel) rfl⟩
theorem kp_RX7_192 : sy_FP RX7 192 7 19 .int := ⟨RX7, TX7, 32, tyX7, kc_7, by decide, sy_mem 816 (by decide +kernel) rfl, rfl, rfl⟩
theorem kf_RX7_37 : sy_FR RX7 37 7 20 := ⟨RX7, TX7, 32, tyX7, kc_7, by decide, sy_mem 817 (by decide +kernel) rfl⟩
theorem kf_RX7_40 : sy_FR RX7 40 7 21 := ⟨RX7, TX7, 32, tyX7, kc_7, by decide, sy_mem 818 (by decide +kernel) rfl⟩
theorem kf_RX7_43 : sy_FR RX7 43 7 22 := ⟨RX7, TX7, 32, tyX7, kc_7, by decide, sy_mem 819 (by decide +kernel) rfl⟩
theorem kf_RX7_71 : sy_FR RX7 71 7 15 := ⟨RX7, TX7, 32, tyX7, kc_7, by decide, sy_mem 812 (by decide +kernel) rfl⟩
theorem kl_RX7_189 : Cond.methodLink RX7 189 yX7_whoIn ∈ sy_T := sy_mem 1054 (by decide +kernel) rfl
theorem kp_RX7_167 : sy_FP RX7 167 7 16 .int := ⟨RX7, TX7, 32, tyX7, kc_7, by decide, sy_mem 813 (by decide +kernel) rfl, rfl, rfl⟩
theorem kf_RX7_55 : sy_FR RX7 55 7 26 := ⟨RX7, TX7, 32, tyX7, kc_7, by decide, sy_mem 823 (by decide +kernel) rfl⟩
theorem ki_X7_lesser : sy_MI yX7_lesser cX7_lesser 2 (some .int) 2 := ⟨sy_mem 1046 (by decide +kernel) rfl, sy_mem 75 (by decide +kernel) rfl, by decide +kernel, by decide⟩
theorem kv_X7_lesser : Cond.static yX7_lesser ∈ sy_T := sy_mem 1045 (by decide +kernel) rfl
theorem ki_X7_many : sy_MI yX7_many cX7_many 5 (some .int) 2 := ⟨sy_mem 1040 (by decide +kernel) rfl, sy_mem 75 (by decide +kernel) rfl, by decide +kernel, by decide⟩
theorem kv_X7_many : sy_MV yX7_many := ⟨sy_mem 1039 (by decide +kernel) rfl, sy_mem 39 (by decide +kernel) rfl⟩
theorem ki_X7_whoIn : sy_MI yX7_whoIn cX7_whoIn 4 (some .int) 1 := ⟨sy_mem 1057 (by decide +kernel) rfl, sy_mem 75 (by decide +kernel) rfl, by decide +kernel, by decide⟩
theorem kv_X7_whoIn : sy_MV yX7_whoIn := ⟨sy_mem 1056 (by decide +kernel) rfl, sy_mem 41 (by decide +kernel) rfl⟩
theorem kl_RX7_195 : Cond.methodLink RX7 195 yX7_passes ∈ sy_T := sy_mem 1033 (by decide +kernel) rfl
theorem ki_X7_passes : sy_MI yX7_passes cX7_passes 6 none 1 := ⟨sy_mem 1036 (by decide +kernel) rfl, sy_mem 75 (by decide +kernel) rfl, by decide +kernel, by decide⟩
theorem kv_X7_passes : sy_MV yX7_passes := ⟨sy_mem 1035 (by decide +kernel) rfl, sy_mem 38 (by decide +kernel) rfl⟩
theorem kl_RX7_198 : Cond.methodLink RX7 198 yX7_seats ∈ sy_T := sy_mem 1025 (by decide +kernel) rfl
theorem kl_RX7_201 : Cond.methodLink RX7 201 yX7_lives ∈ sy_T := sy_mem 1029 (by decide +kernel) rfl
theorem ki_X7_lives : sy_MI yX7_lives cX7_lives 2 none 0 := ⟨sy_mem 1032 (by decide +kernel) rfl, sy_mem 75 (by decide +kernel) rfl, by decide +kernel, by decide⟩
theorem kv_X7_lives : sy_MV yX7_lives := ⟨sy_mem 1031 (by decide +kernel) rfl, sy_mem 37 (by decide +kernel) rfl⟩
theorem ki_X7_seats : sy_MI yX7_seats cX7_seats 2 none 0 := ⟨sy_mem 1028 (by decide +kernel) rfl, sy_mem 75 (by decide +kernel) rfl, by decide +kernel, by decide⟩
theorem kv_X7_seats : sy_MV yX7_seats := ⟨sy_mem 1027 (by decide +kernel) rfl, sy_mem 36 (by decide +kernel) rfl⟩
theorem kl_RX7_204 : Cond.methodLink RX7 204 yX7_find ∈ sy_T := sy_mem 1021 (by decide +kernel) rfl
theorem kl_RX7_207 : Cond.methodLink RX7 207 yX7_atBy ∈ sy_T := sy_mem 1058 (by decide +kernel) rfl
theorem ki_X7_atBy : sy_MI yX7_atBy cX7_atBy 3 (some .int) 2 := ⟨sy_mem 1061 (by decide +kernel) rfl, sy_mem 75 (by decide +kernel) rfl, by decide +kernel, by decide⟩
theorem kv_X7_atBy : sy_MV yX7_atBy := ⟨sy_mem 1060 (by decide +kernel) rfl, sy_mem 42 (by decide +kernel) rfl⟩
theorem ki_X7_find : sy_MI yX7_find cX7_find 1 none 0 := ⟨sy_mem 1024 (by decide +kernel) rfl, sy_mem 75 (by decide +kernel) rfl, by decide +kernel, by decide⟩
theorem kv_X7_find : sy_MV yX7_find := ⟨sy_mem 1023 (by decide +kernel) rfl, sy_mem 35 (by decide +kernel) rfl⟩
theorem kl_RX6_169 : Cond.methodLink RX6 169 yX6_isNote ∈ sy_T := sy_mem 545 (by decide +kernel) rfl
theorem kf_RX6_172 : sy_FR RX6 172 3 3 := ⟨RX3, TX3, 17, tyX3, kc_3, by decide, sy_mem 202 (by decide +kernel) rfl⟩
theorem ki_X6_isNote : sy_MI yX6_isNote cX6_isNote 2 (some .boolean) 1 := ⟨sy_mem 548 (by decide +kernel) rfl, sy_mem 68 (by decide +kernel) rfl, by decide +kernel, by decide⟩
theorem kv_X6_isNote : sy_MV yX6_isNote := ⟨sy_mem 547 (by decide +kernel) rfl, sy_mem 13 (by decide +kernel) rfl⟩
theorem kl_RX7_210 : Cond.methodLink RX7 210 yX7_isNote ∈ sy_T := sy_mem 1066 (by decide +kernel) rfl
theorem ki_X7_isNote : sy_MI yX7_isNote cX7_isNote 2 (some .boolean) 1 := ⟨sy_mem 1069 (by decide +kernel) rfl, sy_mem 75 (by decide +kernel) rfl, by decide +kernel, by decide⟩
theorem kv_X7_isNote : sy_MV yX7_isNote := ⟨sy_mem 1068 (by decide +kernel) rfl, sy_mem 43 (by decide +kernel) rfl⟩
theorem kf_RX6_181 : sy_FR RX6 181 3 6 := ⟨RX3, TX3, 17, tyX3, kc_3, by decide, sy_mem 208 (by decide +kernel) rfl⟩
theorem kf_RX6_178 : sy_FR RX6 178 3 5 := ⟨RX3, TX3, 17, tyX3, kc_3, by decide, sy_mem 206 (by decide +kernel) rfl⟩
theorem kf_RX6_175 : sy_FR RX6 175 3 4 := ⟨RX3, TX3, 17, tyX3, kc_3, by decide, sy_mem 204 (by decide +kernel) rfl⟩
theorem kl_RX7_213 : Cond.methodLink RX7 213 yX7_takesBy ∈ sy_T := sy_mem 1074 (by decide +kernel) rfl
theorem ki_X7_takesBy : sy_MI yX7_takesBy cX7_takesBy 3 (some .int) 2 := ⟨sy_mem 1077 (by decide +kernel) rfl, sy_mem 75 (by decide +kernel) rfl, by decide +kernel, by decide⟩
theorem kv_X7_takesBy : sy_MV yX7_takesBy := ⟨sy_mem 1076 (by decide +kernel) rfl, sy_mem 44 (by decide +kernel) rfl⟩
theorem kf_RX6_190 : sy_FR RX6 190 3 11 := ⟨RX3, TX3, 17, tyX3, kc_3, by decide, sy_mem 218 (by decide +kernel) rfl⟩
theorem kf_RX6_187 : sy_FR RX6 187 3 10 := ⟨RX3, TX3, 17, tyX3, kc_3, by decide, sy_mem 216 (by decide +kernel) rfl⟩
theorem kf_RX6_184 : sy_FR RX6 184 3 7 := ⟨RX3, TX3, 17, tyX3, kc_3, by decide, sy_mem 210 (by decide +kernel) rfl⟩
theorem kl_RX7_216 : Cond.methodLink RX7 216 yX7_soundNow ∈ sy_T := sy_mem 1086 (by decide +kernel) rfl
theorem ki_X7_soundNow : sy_MI yX7_soundNow cX7_soundNow 3 (some .int) 0 := ⟨sy_mem 1089 (by decide +kernel) rfl, sy_mem 75 (by decide +kernel) rfl, by decide +kernel, by decide⟩
theorem kv_X7_soundNow : sy_MV yX7_soundNow := ⟨sy_mem 1088 (by decide +kernel) rfl, sy_mem 46 (by decide +kernel) rfl⟩
theorem kl_RX7_219 : Cond.methodLink RX7 219 yX7_sumBy ∈ sy_T := sy_mem 1082 (by decide +kernel) rfl
theorem ki_X7_sumBy : sy_MI yX7_sumBy cX7_sumBy 2 (some .int) 1 := ⟨sy_mem 1085 (by decide +kernel) rfl, sy_mem 75 (by decide +kernel) rfl, by decide +kernel, by decide⟩
theorem kv_X7_sumBy : sy_MV yX7_sumBy := ⟨sy_mem 1084 (by decide +kernel) rfl, sy_mem 45 (by decide +kernel) rfl⟩
theorem kl_RX7_222 : Cond.methodLink RX7 222 yX7_flatNow ∈ sy_T := sy_mem 1094 (by decide +kernel) rfl
theorem ki_X7_flatNow : sy_MI yX7_flatNow cX7_flatNow 3 (some .int) 0 := ⟨sy_mem 1097 (by decide +kernel) rfl, sy_mem 75 (by decide +kernel) rfl, by decide +kernel, by decide⟩
theorem kv_X7_flatNow : sy_MV yX7_flatNow := ⟨sy_mem 1096 (by decide +kernel) rfl, sy_mem 47 (by decide +kernel) rfl⟩
theorem kl_RX7_225 : Cond.methodLink RX7 225 yX7_silentNow ∈ sy_T := sy_mem 1102 (by decide +kernel) rfl
theorem ki_X7_silentNow : sy_MI yX7_silentNow cX7_silentNow 3 (some .int) 0 := ⟨sy_mem 1105 (by decide +kernel) rfl, sy_mem 75 (by decide +kernel) rfl, by decide +kernel, by decide⟩
theorem kv_X7_silentNow : sy_MV yX7_silentNow := ⟨sy_mem 1104 (by decide +kernel) rfl, sy_mem 48 (by decide +kernel) rfl⟩
theorem kl_RX7_228 : Cond.methodLink RX7 228 yX7_greater ∈ sy_T := sy_mem 1114 (by decide +kernel) rfl
theorem ki_X7_greater : sy_MI yX7_greater cX7_greater 2 (some .int) 2 := ⟨sy_mem 1116 (by decide +kernel) rfl, sy_mem 75 (by decide +kernel) rfl, by decide +kernel, by decide⟩
theorem kv_X7_greater : Cond.static yX7_greater ∈ sy_T := sy_mem 1115 (by decide +kernel) rfl
theorem kl_RX7_231 : Cond.methodLink RX7 231 yX7_greedyNow ∈ sy_T := sy_mem 1110 (by decide +kernel) rfl
theorem ki_X7_greedyNow : sy_MI yX7_greedyNow cX7_greedyNow 4 (some .int) 0 := ⟨sy_mem 1113 (by decide +kernel) rfl, sy_mem 75 (by decide +kernel) rfl, by decide +kernel, by decide⟩
theorem kv_X7_greedyNow : sy_MV yX7_greedyNow := ⟨sy_mem 1112 (by decide +kernel) rfl, sy_mem 49 (by decide +kernel) rfl⟩
theorem kl_RX0_94 : Cond.methodLink RX0 94 arraycopyName ∈ sy_T := sy_mem 581 (by decide +kernel) rfl
theorem kf_RX0_40 : sy_FR RX0 40 0 9 := ⟨RX0, TX0, 15, tyX0, kc_0, by decide, sy_mem 141 (by decide +kernel) rfl⟩
theorem kp_RX0_40 : sy_FP RX0 40 0 9 .int := ⟨RX0, TX0, 15, tyX0, kc_0, by decide, sy_mem 141 (by decide +kernel) rfl, rfl, rfl⟩
theorem kf_RX0_52 : sy_FR RX0 52 0 13 := ⟨RX0, TX0, 15, tyX0, kc_0, by decide, sy_mem 151 (by decide +kernel) rfl⟩
theorem kp_RX0_52 : sy_FP RX0 52 0 13 .int := ⟨RX0, TX0, 15, tyX0, kc_0, by decide, sy_mem 151 (by decide +kernel) rfl, rfl, rfl⟩
theorem kf_RX0_55 : sy_FR RX0 55 0 14 := ⟨RX0, TX0, 15, tyX0, kc_0, by decide, sy_mem 154 (by decide +kernel) rfl⟩
theorem kp_RX0_55 : sy_FP RX0 55 0 14 .int := ⟨RX0, TX0, 15, tyX0, kc_0, by decide, sy_mem 154 (by decide +kernel) rfl, rfl, rfl⟩
theorem kp_RX1_9 : sy_FP RX1 9 1 0 .boolean := ⟨RX1, TX1, 4, tyX1, kc_1, by decide, sy_mem 282 (by decide +kernel) rfl, rfl, rfl⟩
theorem kp_RX1_15 : sy_FP RX1 15 1 1 .int := ⟨RX1, TX1, 4, tyX1, kc_1, by decide, sy_mem 284 (by decide +kernel) rfl, rfl, rfl⟩
theorem kp_RX1_19 : sy_FP RX1 19 1 2 .int := ⟨RX1, TX1, 4, tyX1, kc_1, by decide, sy_mem 286 (by decide +kernel) rfl, rfl, rfl⟩
theorem kp_RX1_22 : sy_FP RX1 22 1 3 .int := ⟨RX1, TX1, 4, tyX1, kc_1, by decide, sy_mem 288 (by decide +kernel) rfl, rfl, rfl⟩
theorem kf_RX6_38 : sy_FR RX6 38 6 5 := ⟨RX6, TX6, 17, tyX6, kc_6, by decide, sy_mem 328 (by decide +kernel) rfl⟩
theorem kf_RX6_28 : sy_FR RX6 28 6 3 := ⟨RX6, TX6, 17, tyX6, kc_6, by decide, sy_mem 326 (by decide +kernel) rfl⟩
theorem kf_RX1_22 : sy_FR RX1 22 1 3 := ⟨RX1, TX1, 4, tyX1, kc_1, by decide, sy_mem 288 (by decide +kernel) rfl⟩
theorem kl_RX6_224 : Cond.methodLink RX6 224 yX0_become ∈ sy_T := sy_mem 577 (by decide +kernel) rfl
theorem kl_RX6_384 : Cond.methodLink RX6 384 yX1_begin ∈ sy_T := sy_mem 584 (by decide +kernel) rfl
theorem kl_RX6_387 : Cond.methodLink RX6 387 yX6_triedSounds ∈ sy_T := sy_mem 588 (by decide +kernel) rfl
theorem kl_RX6_390 : Cond.methodLink RX6 390 yX1_offer ∈ sy_T := sy_mem 592 (by decide +kernel) rfl
theorem ki_X1_offer : sy_MI yX1_offer cX1_offer 4 none 3 := ⟨sy_mem 595 (by decide +kernel) rfl, sy_mem 73 (by decide +kernel) rfl, by decide +kernel, by decide⟩
theorem kv_X1_offer : sy_MV yX1_offer := ⟨sy_mem 593 (by decide +kernel) rfl, sy_mem 594 (by decide +kernel) rfl⟩
theorem ki_X6_triedSounds : sy_MI yX6_triedSounds cX6_triedSounds 1 (some .int) 0 := ⟨sy_mem 591 (by decide +kernel) rfl, sy_mem 68 (by decide +kernel) rfl, by decide +kernel, by decide⟩
theorem kv_X6_triedSounds : sy_MV yX6_triedSounds := ⟨sy_mem 590 (by decide +kernel) rfl, sy_mem 15 (by decide +kernel) rfl⟩
theorem ki_X1_begin : sy_MI yX1_begin cX1_begin 1 none 0 := ⟨sy_mem 587 (by decide +kernel) rfl, sy_mem 73 (by decide +kernel) rfl, by decide +kernel, by decide⟩
theorem kv_X1_begin : sy_MV yX1_begin := ⟨sy_mem 585 (by decide +kernel) rfl, sy_mem 586 (by decide +kernel) rfl⟩
theorem ki_X0_become : sy_MI yX0_become cX0_become 2 none 1 := ⟨sy_mem 580 (by decide +kernel) rfl, sy_mem 70 (by decide +kernel) rfl, by decide +kernel, by decide⟩
theorem kv_X0_become : sy_MV yX0_become := ⟨sy_mem 578 (by decide +kernel) rfl, sy_mem 579 (by decide +kernel) rfl⟩
theorem kf_RX6_196 : sy_FR RX6 196 1 0 := ⟨RX1, TX1, 4, tyX1, kc_1, by decide, sy_mem 283 (by decide +kernel) rfl⟩
theorem kf_RX6_205 : sy_FR RX6 205 1 3 := ⟨RX1, TX1, 4, tyX1, kc_1, by decide, sy_mem 289 (by decide +kernel) rfl⟩
theorem kf_RX6_202 : sy_FR RX6 202 1 1 := ⟨RX1, TX1, 4, tyX1, kc_1, by decide, sy_mem 285 (by decide +kernel) rfl⟩
theorem kl_RX6_199 : Cond.methodLink RX6 199 yX6_searchFill ∈ sy_T := sy_mem 573 (by decide +kernel) rfl
theorem ki_X6_searchFill : sy_MI yX6_searchFill cX6_searchFill 2 none 0 := ⟨sy_mem 576 (by decide +kernel) rfl, sy_mem 68 (by decide +kernel) rfl, by decide +kernel, by decide⟩
theorem kv_X6_searchFill : sy_MV yX6_searchFill := ⟨sy_mem 575 (by decide +kernel) rfl, sy_mem 14 (by decide +kernel) rfl⟩
theorem kl_RX7_234 : Cond.methodLink RX7 234 yX7_fillBy ∈ sy_T := sy_mem 1121 (by decide +kernel) rfl
theorem ki_X7_fillBy : sy_MI yX7_fillBy cX7_fillBy 7 (some .int) 1 := ⟨sy_mem 1124 (by decide +kernel) rfl, sy_mem 75 (by decide +kernel) rfl, by decide +kernel, by decide⟩
theorem kv_X7_fillBy : sy_MV yX7_fillBy := ⟨sy_mem 1123 (by decide +kernel) rfl, sy_mem 50 (by decide +kernel) rfl⟩
theorem kl_RX6_394 : Cond.methodLink RX6 394 yX0_changeSeats ∈ sy_T := sy_mem 604 (by decide +kernel) rfl
theorem ki_X0_changeSeats : sy_MI yX0_changeSeats cX0_changeSeats 4 none 2 := ⟨sy_mem 607 (by decide +kernel) rfl, sy_mem 70 (by decide +kernel) rfl, by decide +kernel, by decide⟩
theorem kv_X0_changeSeats : sy_MV yX0_changeSeats := ⟨sy_mem 605 (by decide +kernel) rfl, sy_mem 606 (by decide +kernel) rfl⟩
theorem kf_RX6_211 : sy_FR RX6 211 1 2 := ⟨RX1, TX1, 4, tyX1, kc_1, by decide, sy_mem 287 (by decide +kernel) rfl⟩
theorem kl_RX6_208 : Cond.methodLink RX6 208 yX6_searchSwap ∈ sy_T := sy_mem 600 (by decide +kernel) rfl
theorem ki_X6_searchSwap : sy_MI yX6_searchSwap cX6_searchSwap 3 none 0 := ⟨sy_mem 603 (by decide +kernel) rfl, sy_mem 68 (by decide +kernel) rfl, by decide +kernel, by decide⟩
theorem kv_X6_searchSwap : sy_MV yX6_searchSwap := ⟨sy_mem 602 (by decide +kernel) rfl, sy_mem 16 (by decide +kernel) rfl⟩
theorem kl_RX7_237 : Cond.methodLink RX7 237 yX7_swapBy ∈ sy_T := sy_mem 1129 (by decide +kernel) rfl
theorem ki_X7_swapBy : sy_MI yX7_swapBy cX7_swapBy 7 (some .int) 1 := ⟨sy_mem 1132 (by decide +kernel) rfl, sy_mem 75 (by decide +kernel) rfl, by decide +kernel, by decide⟩
theorem kv_X7_swapBy : sy_MV yX7_swapBy := ⟨sy_mem 1131 (by decide +kernel) rfl, sy_mem 51 (by decide +kernel) rfl⟩
theorem kp_RX6_397 : sy_FP RX6 397 0 14 .int := ⟨RX0, TX0, 15, tyX0, kc_0, by decide, sy_mem 156 (by decide +kernel) rfl, rfl, rfl⟩
theorem kl_RX6_214 : Cond.methodLink RX6 214 yX6_searchHold ∈ sy_T := sy_mem 612 (by decide +kernel) rfl
theorem ki_X6_searchHold : sy_MI yX6_searchHold cX6_searchHold 2 none 0 := ⟨sy_mem 615 (by decide +kernel) rfl, sy_mem 68 (by decide +kernel) rfl, by decide +kernel, by decide⟩
theorem kv_X6_searchHold : sy_MV yX6_searchHold := ⟨sy_mem 614 (by decide +kernel) rfl, sy_mem 17 (by decide +kernel) rfl⟩
theorem kp_RX7_71 : sy_FP RX7 71 7 15 .int := ⟨RX7, TX7, 32, tyX7, kc_7, by decide, sy_mem 812 (by decide +kernel) rfl, rfl, rfl⟩
theorem kl_RX7_240 : Cond.methodLink RX7 240 yX7_holdBy ∈ sy_T := sy_mem 1137 (by decide +kernel) rfl
theorem ki_X7_holdBy : sy_MI yX7_holdBy cX7_holdBy 6 (some .int) 1 := ⟨sy_mem 1140 (by decide +kernel) rfl, sy_mem 75 (by decide +kernel) rfl, by decide +kernel, by decide⟩
theorem kv_X7_holdBy : sy_MV yX7_holdBy := ⟨sy_mem 1139 (by decide +kernel) rfl, sy_mem 52 (by decide +kernel) rfl⟩
theorem kp_RX6_228 : sy_FP RX6 228 0 13 .int := ⟨RX0, TX0, 15, tyX0, kc_0, by decide, sy_mem 153 (by decide +kernel) rfl, rfl, rfl⟩
theorem kf_RX6_403 : sy_FR RX6 403 3 9 := ⟨RX3, TX3, 17, tyX3, kc_3, by decide, sy_mem 214 (by decide +kernel) rfl⟩
theorem kl_RX6_400 : Cond.methodLink RX6 400 yX6_noneMissedWithout ∈ sy_T := sy_mem 624 (by decide +kernel) rfl
theorem ki_X6_noneMissedWithout : sy_MI yX6_noneMissedWithout cX6_noneMissedWithout 2 (some .boolean) 1 := ⟨sy_mem 627 (by decide +kernel) rfl, sy_mem 68 (by decide +kernel) rfl, by decide +kernel, by decide⟩
theorem kv_X6_noneMissedWithout : sy_MV yX6_noneMissedWithout := ⟨sy_mem 626 (by decide +kernel) rfl, sy_mem 19 (by decide +kernel) rfl⟩
theorem kl_RX6_217 : Cond.methodLink RX6 217 yX6_searchSpare ∈ sy_T := sy_mem 620 (by decide +kernel) rfl
theorem ki_X6_searchSpare : sy_MI yX6_searchSpare cX6_searchSpare 3 none 0 := ⟨sy_mem 623 (by decide +kernel) rfl, sy_mem 68 (by decide +kernel) rfl, by decide +kernel, by decide⟩
theorem kv_X6_searchSpare : sy_MV yX6_searchSpare := ⟨sy_mem 622 (by decide +kernel) rfl, sy_mem 18 (by decide +kernel) rfl⟩
theorem kp_RX7_160 : sy_FP RX7 160 7 14 .int := ⟨RX7, TX7, 32, tyX7, kc_7, by decide, sy_mem 811 (by decide +kernel) rfl, rfl, rfl⟩
theorem kl_RX7_243 : Cond.methodLink RX7 243 yX7_isSpared ∈ sy_T := sy_mem 1150 (by decide +kernel) rfl
theorem ki_X7_isSpared : sy_MI yX7_isSpared cX7_isSpared 4 (some .boolean) 1 := ⟨sy_mem 1153 (by decide +kernel) rfl, sy_mem 75 (by decide +kernel) rfl, by decide +kernel, by decide⟩
theorem kv_X7_isSpared : sy_MV yX7_isSpared := ⟨sy_mem 1152 (by decide +kernel) rfl, sy_mem 54 (by decide +kernel) rfl⟩
theorem kn_RX7_246 : Cond.constantLong RX7 246 (-1) ∈ sy_T := sy_mem 1145 (by decide +kernel) rfl
theorem kl_RX7_248 : Cond.methodLink RX7 248 yX7_spareBy ∈ sy_T := sy_mem 1146 (by decide +kernel) rfl
theorem ki_X7_spareBy : sy_MI yX7_spareBy cX7_spareBy 4 (some .int) 1 := ⟨sy_mem 1149 (by decide +kernel) rfl, sy_mem 75 (by decide +kernel) rfl, by decide +kernel, by decide⟩
theorem kv_X7_spareBy : sy_MV yX7_spareBy := ⟨sy_mem 1148 (by decide +kernel) rfl, sy_mem 53 (by decide +kernel) rfl⟩
theorem kf_RX2_18 : sy_FR RX2 18 2 2 := ⟨RX2, TX2, 3, tyX2, kc_2, by decide, sy_mem 267 (by decide +kernel) rfl⟩
theorem kf_RX2_9 : sy_FR RX2 9 2 0 := ⟨RX2, TX2, 3, tyX2, kc_2, by decide, sy_mem 265 (by decide +kernel) rfl⟩
theorem kf_RX2_15 : sy_FR RX2 15 2 1 := ⟨RX2, TX2, 3, tyX2, kc_2, by decide, sy_mem 266 (by decide +kernel) rfl⟩
theorem kp_RX2_18 : sy_FP RX2 18 2 2 .int := ⟨RX2, TX2, 3, tyX2, kc_2, by decide, sy_mem 267 (by decide +kernel) rfl, rfl, rfl⟩
theorem kf_RX6_44 : sy_FR RX6 44 6 6 := ⟨RX6, TX6, 17, tyX6, kc_6, by decide, sy_mem 329 (by decide +kernel) rfl⟩
theorem kl_RX6_220 : Cond.methodLink RX6 220 yX2_remember ∈ sy_T := sy_mem 632 (by decide +kernel) rfl
theorem kf_RX6_223 : sy_FR RX6 223 2 2 := ⟨RX2, TX2, 3, tyX2, kc_2, by decide, sy_mem 268 (by decide +kernel) rfl⟩
theorem ki_X2_remember : sy_MI yX2_remember cX2_remember 3 (some .boolean) 2 := ⟨sy_mem 635 (by decide +kernel) rfl, sy_mem 72 (by decide +kernel) rfl, by decide +kernel, by decide⟩
theorem kv_X2_remember : sy_MV yX2_remember := ⟨sy_mem 633 (by decide +kernel) rfl, sy_mem 634 (by decide +kernel) rfl⟩
theorem kf_RX7_251 : sy_FR RX7 251 7 28 := ⟨RX7, TX7, 32, tyX7, kc_7, by decide, sy_mem 825 (by decide +kernel) rfl⟩
theorem kf_RX7_61 : sy_FR RX7 61 7 29 := ⟨RX7, TX7, 32, tyX7, kc_7, by decide, sy_mem 826 (by decide +kernel) rfl⟩
theorem kp_RX7_251 : sy_FP RX7 251 7 28 .int := ⟨RX7, TX7, 32, tyX7, kc_7, by decide, sy_mem 825 (by decide +kernel) rfl, rfl, rfl⟩
theorem kp_RX6_223 : sy_FP RX6 223 2 2 .int := ⟨RX2, TX2, 3, tyX2, kc_2, by decide, sy_mem 268 (by decide +kernel) rfl, rfl, rfl⟩
theorem kf_RX2_22 : sy_FR RX2 22 3 3 := ⟨RX3, TX3, 17, tyX3, kc_3, by decide, sy_mem 201 (by decide +kernel) rfl⟩
theorem kl_RX6_380 : Cond.methodLink RX6 380 yX2_fits ∈ sy_T := sy_mem 648 (by decide +kernel) rfl
theorem ki_X2_fits : sy_MI yX2_fits cX2_fits 4 (some .boolean) 2 := ⟨sy_mem 651 (by decide +kernel) rfl, sy_mem 72 (by decide +kernel) rfl, by decide +kernel, by decide⟩
theorem kv_X2_fits : sy_MV yX2_fits := ⟨sy_mem 649 (by decide +kernel) rfl, sy_mem 650 (by decide +kernel) rfl⟩
theorem kl_RX6_231 : Cond.methodLink RX6 231 yX6_triedFits ∈ sy_T := sy_mem 644 (by decide +kernel) rfl
theorem ki_X6_triedFits : sy_MI yX6_triedFits cX6_triedFits 1 (some .boolean) 0 := ⟨sy_mem 647 (by decide +kernel) rfl, sy_mem 68 (by decide +kernel) rfl, by decide +kernel, by decide⟩
theorem kv_X6_triedFits : sy_MV yX6_triedFits := ⟨sy_mem 646 (by decide +kernel) rfl, sy_mem 20 (by decide +kernel) rfl⟩
theorem kl_RX7_254 : Cond.methodLink RX7 254 yX7_isHeard ∈ sy_T := sy_mem 1170 (by decide +kernel) rfl
theorem ki_X7_isHeard : sy_MI yX7_isHeard cX7_isHeard 3 (some .boolean) 0 := ⟨sy_mem 1173 (by decide +kernel) rfl, sy_mem 75 (by decide +kernel) rfl, by decide +kernel, by decide⟩
theorem kv_X7_isHeard : sy_MV yX7_isHeard := ⟨sy_mem 1172 (by decide +kernel) rfl, sy_mem 56 (by decide +kernel) rfl⟩
theorem kl_RX7_258 : Cond.methodLink RX7 258 yX7_neverNow ∈ sy_T := sy_mem 1166 (by decide +kernel) rfl
theorem ki_X7_neverNow : sy_MI yX7_neverNow cX7_neverNow 3 (some .int) 0 := ⟨sy_mem 1169 (by decide +kernel) rfl, sy_mem 75 (by decide +kernel) rfl, by decide +kernel, by decide⟩
theorem kv_X7_neverNow : sy_MV yX7_neverNow := ⟨sy_mem 1168 (by decide +kernel) rfl, sy_mem 55 (by decide +kernel) rfl⟩
theorem kf_RX7_64 : sy_FR RX7 64 7 30 := ⟨RX7, TX7, 32, tyX7, kc_7, by decide, sy_mem 827 (by decide +kernel) rfl⟩
theorem kl_RX7_264 : Cond.methodLink RX7 264 yX7_sortOf ∈ sy_T := sy_mem 1186 (by decide +kernel) rfl
theorem ki_X7_sortOf : sy_MI yX7_sortOf cX7_sortOf 5 (some .int) 1 := ⟨sy_mem 1189 (by decide +kernel) rfl, sy_mem 75 (by decide +kernel) rfl, by decide +kernel, by decide⟩
theorem kv_X7_sortOf : sy_MV yX7_sortOf := ⟨sy_mem 1188 (by decide +kernel) rfl, sy_mem 59 (by decide +kernel) rfl⟩
theorem kl_RX7_261 : Cond.methodLink RX7 261 yX7_wasteOf ∈ sy_T := sy_mem 1182 (by decide +kernel) rfl
theorem ki_X7_wasteOf : sy_MI yX7_wasteOf cX7_wasteOf 6 (some .int) 1 := ⟨sy_mem 1185 (by decide +kernel) rfl, sy_mem 75 (by decide +kernel) rfl, by decide +kernel, by decide⟩
theorem kv_X7_wasteOf : sy_MV yX7_wasteOf := ⟨sy_mem 1184 (by decide +kernel) rfl, sy_mem 58 (by decide +kernel) rfl⟩
theorem kl_RX7_267 : Cond.methodLink RX7 267 yX7_wasOf ∈ sy_T := sy_mem 1178 (by decide +kernel) rfl
theorem ki_X7_wasOf : sy_MI yX7_wasOf cX7_wasOf 3 (some .int) 2 := ⟨sy_mem 1181 (by decide +kernel) rfl, sy_mem 75 (by decide +kernel) rfl, by decide +kernel, by decide⟩
theorem kv_X7_wasOf : sy_MV yX7_wasOf := ⟨sy_mem 1180 (by decide +kernel) rfl, sy_mem 57 (by decide +kernel) rfl⟩
theorem kf_RX6_68 : sy_FR RX6 68 6 12 := ⟨RX6, TX6, 17, tyX6, kc_6, by decide, sy_mem 335 (by decide +kernel) rfl⟩
theorem kl_RX6_409 : Cond.methodLink RX6 409 yJ7_fill_53178 ∈ sy_T := sy_mem 664 (by decide +kernel) rfl
theorem kl_RX6_414 : Cond.methodLink RX6 414 Lib.Math.max.name ∈ sy_T := sy_mem 669 (by decide +kernel) rfl
theorem kl_RX6_235 : Cond.methodLink RX6 235 yX6_countAlike ∈ sy_T := sy_mem 660 (by decide +kernel) rfl
theorem kl_RX6_239 : Cond.methodLink RX6 239 yX6_mostAlike ∈ sy_T := sy_mem 665 (by decide +kernel) rfl
theorem ki_X6_mostAlike : sy_MI yX6_mostAlike cX6_mostAlike 4 (some .int) 1 := ⟨sy_mem 668 (by decide +kernel) rfl, sy_mem 68 (by decide +kernel) rfl, by decide +kernel, by decide⟩
theorem kv_X6_mostAlike : sy_MV yX6_mostAlike := ⟨sy_mem 667 (by decide +kernel) rfl, sy_mem 22 (by decide +kernel) rfl⟩
theorem ki_X6_countAlike : sy_MI yX6_countAlike cX6_countAlike 4 none 1 := ⟨sy_mem 663 (by decide +kernel) rfl, sy_mem 68 (by decide +kernel) rfl, by decide +kernel, by decide⟩
theorem kv_X6_countAlike : sy_MV yX6_countAlike := ⟨sy_mem 662 (by decide +kernel) rfl, sy_mem 21 (by decide +kernel) rfl⟩
theorem kl_RX7_270 : Cond.methodLink RX7 270 yX7_alike ∈ sy_T := sy_mem 1198 (by decide +kernel) rfl
theorem ki_X7_alike : sy_MI yX7_alike cX7_alike 7 (some .int) 2 := ⟨sy_mem 1201 (by decide +kernel) rfl, sy_mem 75 (by decide +kernel) rfl, by decide +kernel, by decide⟩
theorem kv_X7_alike : sy_MV yX7_alike := ⟨sy_mem 1200 (by decide +kernel) rfl, sy_mem 61 (by decide +kernel) rfl⟩
theorem kl_RX7_273 : Cond.methodLink RX7 273 yX7_askOf ∈ sy_T := sy_mem 1194 (by decide +kernel) rfl
theorem ki_X7_askOf : sy_MI yX7_askOf cX7_askOf 5 (some .int) 1 := ⟨sy_mem 1197 (by decide +kernel) rfl, sy_mem 75 (by decide +kernel) rfl, by decide +kernel, by decide⟩
theorem kv_X7_askOf : sy_MV yX7_askOf := ⟨sy_mem 1196 (by decide +kernel) rfl, sy_mem 60 (by decide +kernel) rfl⟩
theorem kf_RX6_64 : sy_FR RX6 64 6 11 := ⟨RX6, TX6, 17, tyX6, kc_6, by decide, sy_mem 334 (by decide +kernel) rfl⟩
theorem kf_RX6_406 : sy_FR RX6 406 3 8 := ⟨RX3, TX3, 17, tyX3, kc_3, by decide, sy_mem 212 (by decide +kernel) rfl⟩
theorem kn_RJ6_265 : Cond.constant RJ6 265 1431655765 ∈ sy_T := sy_mem 684 (by decide +kernel) rfl
theorem kn_RJ6_266 : Cond.constant RJ6 266 858993459 ∈ sy_T := sy_mem 685 (by decide +kernel) rfl
theorem kn_RJ6_267 : Cond.constant RJ6 267 252645135 ∈ sy_T := sy_mem 686 (by decide +kernel) rfl
theorem kn_RX6_242 : Cond.constantLong RX6 242 (-9223372036854775806) ∈ sy_T := sy_mem 676 (by decide +kernel) rfl
theorem kf_RX6_81 : sy_FR RX6 81 6 15 := ⟨RX6, TX6, 17, tyX6, kc_6, by decide, sy_mem 338 (by decide +kernel) rfl⟩
theorem kl_RX6_247 : Cond.methodLink RX6 247 yJ6_bitCount_0f7a4 ∈ sy_T := sy_mem 681 (by decide +kernel) rfl
theorem kl_RX6_252 : Cond.methodLink RX6 252 yX6_weight ∈ sy_T := sy_mem 687 (by decide +kernel) rfl
theorem ki_X6_weight : sy_MI yX6_weight cX6_weight 6 (some .long) 2 := ⟨sy_mem 690 (by decide +kernel) rfl, sy_mem 68 (by decide +kernel) rfl, by decide +kernel, by decide⟩
theorem kv_X6_weight : sy_MV yX6_weight := ⟨sy_mem 689 (by decide +kernel) rfl, sy_mem 24 (by decide +kernel) rfl⟩
theorem ki_J6_bitCount_0f7a4 : sy_MI yJ6_bitCount_0f7a4 cJ6_bitCount_0f7a4 1 (some .int) 1 := ⟨sy_mem 683 (by decide +kernel) rfl, sy_mem 79 (by decide +kernel) rfl, by decide +kernel, by decide⟩
theorem kv_J6_bitCount_0f7a4 : Cond.static yJ6_bitCount_0f7a4 ∈ sy_T := sy_mem 682 (by decide +kernel) rfl
theorem kn_RX6_256 : Cond.constantLong RX6 256 2 ∈ sy_T := sy_mem 691 (by decide +kernel) rfl
theorem kl_RX6_244 : Cond.methodLink RX6 244 yX6_learnSubsets ∈ sy_T := sy_mem 677 (by decide +kernel) rfl
theorem ki_X6_learnSubsets : sy_MI yX6_learnSubsets cX6_learnSubsets 3 none 0 := ⟨sy_mem 680 (by decide +kernel) rfl, sy_mem 68 (by decide +kernel) rfl, by decide +kernel, by decide⟩
theorem kv_X6_learnSubsets : sy_MV yX6_learnSubsets := ⟨sy_mem 679 (by decide +kernel) rfl, sy_mem 23 (by decide +kernel) rfl⟩
theorem kl_RX7_276 : Cond.methodLink RX7 276 yX7_part ∈ sy_T := sy_mem 1211 (by decide +kernel) rfl
theorem ki_X7_part : sy_MI yX7_part cX7_part 11 (some .long) 3 := ⟨sy_mem 1213 (by decide +kernel) rfl, sy_mem 75 (by decide +kernel) rfl, by decide +kernel, by decide⟩
theorem kv_X7_part : Cond.static yX7_part ∈ sy_T := sy_mem 1212 (by decide +kernel) rfl
theorem kn_RX7_74 : Cond.constantLong RX7 74 (-9223372036854775808) ∈ sy_T := sy_mem 1217 (by decide +kernel) rfl
theorem kn_RX7_280 : Cond.constantLong RX7 280 16 ∈ sy_T := sy_mem 1206 (by decide +kernel) rfl
theorem kl_RX7_286 : Cond.methodLink RX7 286 yX7_no ∈ sy_T := sy_mem 1214 (by decide +kernel) rfl
theorem ki_X7_no : sy_MI yX7_no cX7_no 1 (some .long) 1 := ⟨sy_mem 1216 (by decide +kernel) rfl, sy_mem 75 (by decide +kernel) rfl, by decide +kernel, by decide⟩
theorem kv_X7_no : Cond.static yX7_no ∈ sy_T := sy_mem 1215 (by decide +kernel) rfl
theorem kl_RX7_282 : Cond.methodLink RX7 282 yX7_chanceOf ∈ sy_T := sy_mem 1207 (by decide +kernel) rfl
theorem ki_X7_chanceOf : sy_MI yX7_chanceOf cX7_chanceOf 10 (some .long) 3 := ⟨sy_mem 1210 (by decide +kernel) rfl, sy_mem 75 (by decide +kernel) rfl, by decide +kernel, by decide⟩
theorem kv_X7_chanceOf : sy_MV yX7_chanceOf := ⟨sy_mem 1209 (by decide +kernel) rfl, sy_mem 62 (by decide +kernel) rfl⟩
theorem kn_RX6_423 : Cond.constant RX6 423 1103515245 ∈ sy_T := sy_mem 704 (by decide +kernel) rfl
theorem kl_RX6_417 : Cond.methodLink RX6 417 yX6_nextSeed ∈ sy_T := sy_mem 701 (by decide +kernel) rfl
theorem kl_RX6_420 : Cond.methodLink RX6 420 yX0_addNote ∈ sy_T := sy_mem 705 (by decide +kernel) rfl
theorem ki_X6_nextSeed : sy_MI yX6_nextSeed cX6_nextSeed 1 (some .int) 1 := ⟨sy_mem 703 (by decide +kernel) rfl, sy_mem 68 (by decide +kernel) rfl, by decide +kernel, by decide⟩
theorem kv_X6_nextSeed : Cond.static yX6_nextSeed ∈ sy_T := sy_mem 702 (by decide +kernel) rfl
theorem kl_RX6_258 : Cond.methodLink RX6 258 yX0_clearNotes ∈ sy_T := sy_mem 696 (by decide +kernel) rfl
theorem kl_RX6_261 : Cond.methodLink RX6 261 yX6_drawNotes ∈ sy_T := sy_mem 697 (by decide +kernel) rfl
theorem ki_X6_drawNotes : sy_MI yX6_drawNotes cX6_drawNotes 6 none 2 := ⟨sy_mem 700 (by decide +kernel) rfl, sy_mem 68 (by decide +kernel) rfl, by decide +kernel, by decide⟩
theorem kv_X6_drawNotes : sy_MV yX6_drawNotes := ⟨sy_mem 699 (by decide +kernel) rfl, sy_mem 25 (by decide +kernel) rfl⟩
theorem kn_RX7_290 : Cond.constant RX7 290 1103515245 ∈ sy_T := sy_mem 1230 (by decide +kernel) rfl
theorem kf_RX7_291 : sy_FR RX7 291 7 31 := ⟨RX7, TX7, 32, tyX7, kc_7, by decide, sy_mem 828 (by decide +kernel) rfl⟩
theorem kp_RX7_291 : sy_FP RX7 291 7 31 .int := ⟨RX7, TX7, 32, tyX7, kc_7, by decide, sy_mem 828 (by decide +kernel) rfl, rfl, rfl⟩
theorem kl_RX7_294 : Cond.methodLink RX7 294 yX7_lot ∈ sy_T := sy_mem 1226 (by decide +kernel) rfl
theorem ki_X7_lot : sy_MI yX7_lot cX7_lot 2 (some .int) 1 := ⟨sy_mem 1229 (by decide +kernel) rfl, sy_mem 75 (by decide +kernel) rfl, by decide +kernel, by decide⟩
theorem kv_X7_lot : sy_MV yX7_lot := ⟨sy_mem 1228 (by decide +kernel) rfl, sy_mem 64 (by decide +kernel) rfl⟩
theorem kl_RX7_297 : Cond.methodLink RX7 297 yX7_yearsOf ∈ sy_T := sy_mem 1222 (by decide +kernel) rfl
theorem ki_X7_yearsOf : sy_MI yX7_yearsOf cX7_yearsOf 5 (some .int) 3 := ⟨sy_mem 1225 (by decide +kernel) rfl, sy_mem 75 (by decide +kernel) rfl, by decide +kernel, by decide⟩
theorem kv_X7_yearsOf : sy_MV yX7_yearsOf := ⟨sy_mem 1224 (by decide +kernel) rfl, sy_mem 63 (by decide +kernel) rfl⟩
theorem kp_RX4_9 : sy_FP RX4 9 4 0 .boolean := ⟨RX4, TX4, 4, tyX4, kc_4, by decide, sy_mem 306 (by decide +kernel) rfl, rfl, rfl⟩
theorem kp_RX4_15 : sy_FP RX4 15 4 1 .int := ⟨RX4, TX4, 4, tyX4, kc_4, by decide, sy_mem 308 (by decide +kernel) rfl, rfl, rfl⟩
theorem kp_RX4_19 : sy_FP RX4 19 4 2 .int := ⟨RX4, TX4, 4, tyX4, kc_4, by decide, sy_mem 310 (by decide +kernel) rfl, rfl, rfl⟩
theorem kf_RX4_22 : sy_FR RX4 22 4 3 := ⟨RX4, TX4, 4, tyX4, kc_4, by decide, sy_mem 312 (by decide +kernel) rfl⟩
theorem kl_RX4_26 : Cond.methodLink RX4 26 yJ7_fill_53178 ∈ sy_T := sy_mem 714 (by decide +kernel) rfl
theorem kl_RX6_268 : Cond.methodLink RX6 268 yX4_renew ∈ sy_T := sy_mem 710 (by decide +kernel) rfl
theorem ki_X4_renew : sy_MI yX4_renew cX4_renew 3 none 2 := ⟨sy_mem 713 (by decide +kernel) rfl, sy_mem 74 (by decide +kernel) rfl, by decide +kernel, by decide⟩
theorem kv_X4_renew : sy_MV yX4_renew := ⟨sy_mem 711 (by decide +kernel) rfl, sy_mem 712 (by decide +kernel) rfl⟩
theorem kp_RX6_145 : sy_FP RX6 145 4 0 .boolean := ⟨RX4, TX4, 4, tyX4, kc_4, by decide, sy_mem 307 (by decide +kernel) rfl, rfl, rfl⟩
theorem kf_RX4_9 : sy_FR RX4 9 4 0 := ⟨RX4, TX4, 4, tyX4, kc_4, by decide, sy_mem 306 (by decide +kernel) rfl⟩
theorem kf_RX4_15 : sy_FR RX4 15 4 1 := ⟨RX4, TX4, 4, tyX4, kc_4, by decide, sy_mem 308 (by decide +kernel) rfl⟩
theorem kf_RX4_19 : sy_FR RX4 19 4 2 := ⟨RX4, TX4, 4, tyX4, kc_4, by decide, sy_mem 310 (by decide +kernel) rfl⟩
theorem kl_RX6_271 : Cond.methodLink RX6 271 yX4_findingAt ∈ sy_T := sy_mem 723 (by decide +kernel) rfl
theorem kl_RX6_275 : Cond.methodLink RX6 275 yX4_put ∈ sy_T := sy_mem 727 (by decide +kernel) rfl
theorem ki_X4_put : sy_MI yX4_put cX4_put 3 none 2 := ⟨sy_mem 730 (by decide +kernel) rfl, sy_mem 74 (by decide +kernel) rfl, by decide +kernel, by decide⟩
theorem kv_X4_put : sy_MV yX4_put := ⟨sy_mem 728 (by decide +kernel) rfl, sy_mem 729 (by decide +kernel) rfl⟩
theorem ki_X4_findingAt : sy_MI yX4_findingAt cX4_findingAt 3 (some .int) 2 := ⟨sy_mem 726 (by decide +kernel) rfl, sy_mem 74 (by decide +kernel) rfl, by decide +kernel, by decide⟩
theorem kv_X4_findingAt : sy_MV yX4_findingAt := ⟨sy_mem 724 (by decide +kernel) rfl, sy_mem 725 (by decide +kernel) rfl⟩
theorem kl_RX7_95 : Cond.methodLink RX7 95 yX7_lacks ∈ sy_T := sy_mem 918 (by decide +kernel) rfl
theorem kl_RX7_99 : Cond.methodLink RX7 99 yX7_cut ∈ sy_T := sy_mem 922 (by decide +kernel) rfl
theorem ki_X7_cut : sy_MI yX7_cut cX7_cut 2 (some .int) 2 := ⟨sy_mem 924 (by decide +kernel) rfl, sy_mem 75 (by decide +kernel) rfl, by decide +kernel, by decide⟩
theorem kv_X7_cut : Cond.static yX7_cut ∈ sy_T := sy_mem 923 (by decide +kernel) rfl
theorem ki_X7_lacks : sy_MI yX7_lacks cX7_lacks 4 (some .int) 3 := ⟨sy_mem 921 (by decide +kernel) rfl, sy_mem 75 (by decide +kernel) rfl, by decide +kernel, by decide⟩
theorem kv_X7_lacks : sy_MV yX7_lacks := ⟨sy_mem 920 (by decide +kernel) rfl, sy_mem 29 (by decide +kernel) rfl⟩
theorem kn_RX6_278 : Cond.constant RX6 278 (-2147483648) ∈ sy_T := sy_mem 735 (by decide +kernel) rfl
theorem kn_RX7_103 : Cond.constant RX7 103 (-2147483648) ∈ sy_T := sy_mem 929 (by decide +kernel) rfl
theorem kf_RX6_279 : sy_FR RX6 279 4 1 := ⟨RX4, TX4, 4, tyX4, kc_4, by decide, sy_mem 309 (by decide +kernel) rfl⟩
theorem kl_RX6_282 : Cond.methodLink RX6 282 yX4_holds ∈ sy_T := sy_mem 740 (by decide +kernel) rfl
theorem kl_RX6_285 : Cond.methodLink RX6 285 arraycopyName ∈ sy_T := sy_mem 744 (by decide +kernel) rfl
theorem ki_X4_holds : sy_MI yX4_holds cX4_holds 3 (some .boolean) 2 := ⟨sy_mem 743 (by decide +kernel) rfl, sy_mem 74 (by decide +kernel) rfl, by decide +kernel, by decide⟩
theorem kv_X4_holds : sy_MV yX4_holds := ⟨sy_mem 741 (by decide +kernel) rfl, sy_mem 742 (by decide +kernel) rfl⟩
theorem kf_RX7_19 : sy_FR RX7 19 7 3 := ⟨RX7, TX7, 32, tyX7, kc_7, by decide, sy_mem 800 (by decide +kernel) rfl⟩
theorem kl_RX6_291 : Cond.methodLink RX6 291 Lib.Math.min.name ∈ sy_T := sy_mem 749 (by decide +kernel) rfl
theorem kf_RX6_84 : sy_FR RX6 84 6 16 := ⟨RX6, TX6, 17, tyX6, kc_6, by decide, sy_mem 339 (by decide +kernel) rfl⟩
theorem kf_RX7_80 : sy_FR RX7 80 7 4 := ⟨RX7, TX7, 32, tyX7, kc_7, by decide, sy_mem 801 (by decide +kernel) rfl⟩
theorem kn_RX6_371 : Cond.constantLong RX6 371 31 ∈ sy_T := sy_mem 763 (by decide +kernel) rfl
theorem kl_RX6_349 : Cond.methodLink RX6 349 yX6_note ∈ sy_T := sy_mem 770 (by decide +kernel) rfl
theorem kl_RX6_301 : Cond.methodLink RX6 301 yX6_mix ∈ sy_T := sy_mem 760 (by decide +kernel) rfl
theorem ki_X6_mix : sy_MI yX6_mix cX6_mix 4 (some .long) 2 := ⟨sy_mem 762 (by decide +kernel) rfl, sy_mem 68 (by decide +kernel) rfl, by decide +kernel, by decide⟩
theorem kv_X6_mix : Cond.static yX6_mix ∈ sy_T := sy_mem 761 (by decide +kernel) rfl
theorem ki_X6_note : sy_MI yX6_note cX6_note 3 (some .int) 2 := ⟨sy_mem 471 (by decide +kernel) rfl, sy_mem 68 (by decide +kernel) rfl, by decide +kernel, by decide⟩
theorem kv_X6_note : sy_MV yX6_note := ⟨sy_mem 469 (by decide +kernel) rfl, sy_mem 470 (by decide +kernel) rfl⟩
theorem kl_RX6_352 : Cond.methodLink RX6 352 yX6_heard ∈ sy_T := sy_mem 771 (by decide +kernel) rfl
theorem kl_RX6_355 : Cond.methodLink RX6 355 yX6_chance ∈ sy_T := sy_mem 772 (by decide +kernel) rfl
theorem ki_X6_chance : sy_MI yX6_chance cX6_chance 11 (some .long) 3 := ⟨sy_mem 675 (by decide +kernel) rfl, sy_mem 68 (by decide +kernel) rfl, by decide +kernel, by decide⟩
theorem kv_X6_chance : sy_MV yX6_chance := ⟨sy_mem 673 (by decide +kernel) rfl, sy_mem 674 (by decide +kernel) rfl⟩
theorem ki_X6_heard : sy_MI yX6_heard cX6_heard 2 (some .int) 1 := ⟨sy_mem 544 (by decide +kernel) rfl, sy_mem 68 (by decide +kernel) rfl, by decide +kernel, by decide⟩
theorem kv_X6_heard : sy_MV yX6_heard := ⟨sy_mem 542 (by decide +kernel) rfl, sy_mem 543 (by decide +kernel) rfl⟩
theorem kl_RX6_359 : Cond.methodLink RX6 359 yX6_player ∈ sy_T := sy_mem 777 (by decide +kernel) rfl
theorem kl_RX6_362 : Cond.methodLink RX6 362 yX6_takes ∈ sy_T := sy_mem 778 (by decide +kernel) rfl
theorem kl_RX6_365 : Cond.methodLink RX6 365 yX6_was ∈ sy_T := sy_mem 779 (by decide +kernel) rfl
theorem kl_RX6_368 : Cond.methodLink RX6 368 yX6_ask ∈ sy_T := sy_mem 780 (by decide +kernel) rfl
theorem ki_X6_ask : sy_MI yX6_ask cX6_ask 6 (some .int) 1 := ⟨sy_mem 659 (by decide +kernel) rfl, sy_mem 68 (by decide +kernel) rfl, by decide +kernel, by decide⟩
theorem kv_X6_ask : sy_MV yX6_ask := ⟨sy_mem 657 (by decide +kernel) rfl, sy_mem 658 (by decide +kernel) rfl⟩
theorem ki_X6_was : sy_MI yX6_was cX6_was 7 (some .int) 2 := ⟨sy_mem 655 (by decide +kernel) rfl, sy_mem 68 (by decide +kernel) rfl, by decide +kernel, by decide⟩
theorem kv_X6_was : sy_MV yX6_was := ⟨sy_mem 653 (by decide +kernel) rfl, sy_mem 654 (by decide +kernel) rfl⟩
theorem ki_X6_takes : sy_MI yX6_takes cX6_takes 4 (some .int) 2 := ⟨sy_mem 552 (by decide +kernel) rfl, sy_mem 68 (by decide +kernel) rfl, by decide +kernel, by decide⟩
theorem kv_X6_takes : sy_MV yX6_takes := ⟨sy_mem 550 (by decide +kernel) rfl, sy_mem 551 (by decide +kernel) rfl⟩
theorem ki_X6_player : sy_MI yX6_player cX6_player 3 (some .int) 2 := ⟨sy_mem 463 (by decide +kernel) rfl, sy_mem 68 (by decide +kernel) rfl, by decide +kernel, by decide⟩
theorem kv_X6_player : sy_MV yX6_player := ⟨sy_mem 461 (by decide +kernel) rfl, sy_mem 462 (by decide +kernel) rfl⟩
theorem kn_RX6_296 : Cond.constantLong RX6 296 17 ∈ sy_T := sy_mem 758 (by decide +kernel) rfl
theorem kl_RX6_298 : Cond.methodLink RX6 298 yX6_count ∈ sy_T := sy_mem 759 (by decide +kernel) rfl
theorem ki_X6_count : sy_MI yX6_count cX6_count 2 (some .int) 1 := ⟨sy_mem 753 (by decide +kernel) rfl, sy_mem 68 (by decide +kernel) rfl, by decide +kernel, by decide⟩
theorem kv_X6_count : sy_MV yX6_count := ⟨sy_mem 751 (by decide +kernel) rfl, sy_mem 752 (by decide +kernel) rfl⟩
theorem kl_RX6_305 : Cond.methodLink RX6 305 yX6_fault ∈ sy_T := sy_mem 764 (by decide +kernel) rfl
theorem kl_RX6_308 : Cond.methodLink RX6 308 yX6_at ∈ sy_T := sy_mem 765 (by decide +kernel) rfl
theorem ki_X6_at : sy_MI yX6_at cX6_at 4 (some .int) 2 := ⟨sy_mem 503 (by decide +kernel) rfl, sy_mem 68 (by decide +kernel) rfl, by decide +kernel, by decide⟩
theorem kv_X6_at : sy_MV yX6_at := ⟨sy_mem 501 (by decide +kernel) rfl, sy_mem 502 (by decide +kernel) rfl⟩
theorem kl_RX6_311 : Cond.methodLink RX6 311 yX6_mixNotes ∈ sy_T := sy_mem 766 (by decide +kernel) rfl
theorem kl_RX6_315 : Cond.methodLink RX6 315 yX6_mixPlayers ∈ sy_T := sy_mem 773 (by decide +kernel) rfl
theorem kl_RX6_318 : Cond.methodLink RX6 318 yX6_sum ∈ sy_T := sy_mem 781 (by decide +kernel) rfl
theorem kl_RX6_321 : Cond.methodLink RX6 321 yX6_flat ∈ sy_T := sy_mem 782 (by decide +kernel) rfl
theorem kl_RX6_324 : Cond.methodLink RX6 324 yX6_silent ∈ sy_T := sy_mem 783 (by decide +kernel) rfl
theorem kl_RX6_327 : Cond.methodLink RX6 327 yX6_greedy ∈ sy_T := sy_mem 784 (by decide +kernel) rfl
theorem kl_RX6_330 : Cond.methodLink RX6 330 yX6_fill ∈ sy_T := sy_mem 785 (by decide +kernel) rfl
theorem kl_RX6_333 : Cond.methodLink RX6 333 yX6_swap ∈ sy_T := sy_mem 786 (by decide +kernel) rfl
theorem kl_RX6_336 : Cond.methodLink RX6 336 yX6_hold ∈ sy_T := sy_mem 787 (by decide +kernel) rfl
theorem kl_RX6_339 : Cond.methodLink RX6 339 yX6_spare ∈ sy_T := sy_mem 788 (by decide +kernel) rfl
theorem kl_RX6_342 : Cond.methodLink RX6 342 yX6_never ∈ sy_T := sy_mem 789 (by decide +kernel) rfl
theorem kl_RX6_345 : Cond.methodLink RX6 345 yX6_years ∈ sy_T := sy_mem 790 (by decide +kernel) rfl
theorem ki_X6_years : sy_MI yX6_years cX6_years 4 (some .int) 3 := ⟨sy_mem 695 (by decide +kernel) rfl, sy_mem 68 (by decide +kernel) rfl, by decide +kernel, by decide⟩
theorem kv_X6_years : sy_MV yX6_years := ⟨sy_mem 693 (by decide +kernel) rfl, sy_mem 694 (by decide +kernel) rfl⟩
theorem ki_X6_never : sy_MI yX6_never cX6_never 3 (some .int) 0 := ⟨sy_mem 643 (by decide +kernel) rfl, sy_mem 68 (by decide +kernel) rfl, by decide +kernel, by decide⟩
theorem kv_X6_never : sy_MV yX6_never := ⟨sy_mem 641 (by decide +kernel) rfl, sy_mem 642 (by decide +kernel) rfl⟩
theorem ki_X6_spare : sy_MI yX6_spare cX6_spare 2 (some .int) 1 := ⟨sy_mem 619 (by decide +kernel) rfl, sy_mem 68 (by decide +kernel) rfl, by decide +kernel, by decide⟩
theorem kv_X6_spare : sy_MV yX6_spare := ⟨sy_mem 617 (by decide +kernel) rfl, sy_mem 618 (by decide +kernel) rfl⟩
theorem ki_X6_hold : sy_MI yX6_hold cX6_hold 2 (some .int) 1 := ⟨sy_mem 611 (by decide +kernel) rfl, sy_mem 68 (by decide +kernel) rfl, by decide +kernel, by decide⟩
theorem kv_X6_hold : sy_MV yX6_hold := ⟨sy_mem 609 (by decide +kernel) rfl, sy_mem 610 (by decide +kernel) rfl⟩
theorem ki_X6_swap : sy_MI yX6_swap cX6_swap 2 (some .int) 1 := ⟨sy_mem 599 (by decide +kernel) rfl, sy_mem 68 (by decide +kernel) rfl, by decide +kernel, by decide⟩
theorem kv_X6_swap : sy_MV yX6_swap := ⟨sy_mem 597 (by decide +kernel) rfl, sy_mem 598 (by decide +kernel) rfl⟩
theorem ki_X6_fill : sy_MI yX6_fill cX6_fill 2 (some .int) 1 := ⟨sy_mem 572 (by decide +kernel) rfl, sy_mem 68 (by decide +kernel) rfl, by decide +kernel, by decide⟩
theorem kv_X6_fill : sy_MV yX6_fill := ⟨sy_mem 570 (by decide +kernel) rfl, sy_mem 571 (by decide +kernel) rfl⟩
theorem ki_X6_greedy : sy_MI yX6_greedy cX6_greedy 5 (some .int) 0 := ⟨sy_mem 568 (by decide +kernel) rfl, sy_mem 68 (by decide +kernel) rfl, by decide +kernel, by decide⟩
theorem kv_X6_greedy : sy_MV yX6_greedy := ⟨sy_mem 566 (by decide +kernel) rfl, sy_mem 567 (by decide +kernel) rfl⟩
theorem ki_X6_silent : sy_MI yX6_silent cX6_silent 4 (some .int) 0 := ⟨sy_mem 564 (by decide +kernel) rfl, sy_mem 68 (by decide +kernel) rfl, by decide +kernel, by decide⟩
theorem kv_X6_silent : sy_MV yX6_silent := ⟨sy_mem 562 (by decide +kernel) rfl, sy_mem 563 (by decide +kernel) rfl⟩
theorem ki_X6_flat : sy_MI yX6_flat cX6_flat 3 (some .int) 0 := ⟨sy_mem 560 (by decide +kernel) rfl, sy_mem 68 (by decide +kernel) rfl, by decide +kernel, by decide⟩
theorem kv_X6_flat : sy_MV yX6_flat := ⟨sy_mem 558 (by decide +kernel) rfl, sy_mem 559 (by decide +kernel) rfl⟩
theorem ki_X6_sum : sy_MI yX6_sum cX6_sum 3 (some .int) 1 := ⟨sy_mem 556 (by decide +kernel) rfl, sy_mem 68 (by decide +kernel) rfl, by decide +kernel, by decide⟩
theorem kv_X6_sum : sy_MV yX6_sum := ⟨sy_mem 554 (by decide +kernel) rfl, sy_mem 555 (by decide +kernel) rfl⟩
theorem ki_X6_mixPlayers : sy_MI yX6_mixPlayers cX6_mixPlayers 6 (some .long) 1 := ⟨sy_mem 776 (by decide +kernel) rfl, sy_mem 68 (by decide +kernel) rfl, by decide +kernel, by decide⟩
theorem kv_X6_mixPlayers : sy_MV yX6_mixPlayers := ⟨sy_mem 775 (by decide +kernel) rfl, sy_mem 27 (by decide +kernel) rfl⟩
theorem ki_X6_mixNotes : sy_MI yX6_mixNotes cX6_mixNotes 6 (some .long) 1 := ⟨sy_mem 769 (by decide +kernel) rfl, sy_mem 68 (by decide +kernel) rfl, by decide +kernel, by decide⟩
theorem kv_X6_mixNotes : sy_MV yX6_mixNotes := ⟨sy_mem 768 (by decide +kernel) rfl, sy_mem 26 (by decide +kernel) rfl⟩
theorem ki_X6_fault : sy_MI yX6_fault cX6_fault 2 (some .int) 1 := ⟨sy_mem 458 (by decide +kernel) rfl, sy_mem 68 (by decide +kernel) rfl, by decide +kernel, by decide⟩
theorem kv_X6_fault : sy_MV yX6_fault := ⟨sy_mem 456 (by decide +kernel) rfl, sy_mem 457 (by decide +kernel) rfl⟩
theorem kn_RX7_300 : Cond.constantLong RX7 300 31 ∈ sy_T := sy_mem 1244 (by decide +kernel) rfl
theorem kn_RX7_302 : Cond.constantLong RX7 302 17 ∈ sy_T := sy_mem 1243 (by decide +kernel) rfl
theorem kl_RX7_304 : Cond.methodLink RX7 304 yX7_count ∈ sy_T := sy_mem 1245 (by decide +kernel) rfl
theorem ki_X7_count : sy_MI yX7_count cX7_count 2 (some .int) 1 := ⟨sy_mem 1238 (by decide +kernel) rfl, sy_mem 75 (by decide +kernel) rfl, by decide +kernel, by decide⟩
theorem kv_X7_count : sy_MV yX7_count := ⟨sy_mem 1236 (by decide +kernel) rfl, sy_mem 1237 (by decide +kernel) rfl⟩
theorem kl_RX7_307 : Cond.methodLink RX7 307 yX7_tellsNote ∈ sy_T := sy_mem 1246 (by decide +kernel) rfl
theorem ki_X7_tellsNote : sy_MI yX7_tellsNote cX7_tellsNote 6 (some .long) 2 := ⟨sy_mem 1249 (by decide +kernel) rfl, sy_mem 75 (by decide +kernel) rfl, by decide +kernel, by decide⟩
theorem kv_X7_tellsNote : sy_MV yX7_tellsNote := ⟨sy_mem 1248 (by decide +kernel) rfl, sy_mem 65 (by decide +kernel) rfl⟩
theorem kl_RX7_311 : Cond.methodLink RX7 311 yX7_tellsPlayer ∈ sy_T := sy_mem 1250 (by decide +kernel) rfl
theorem ki_X7_tellsPlayer : sy_MI yX7_tellsPlayer cX7_tellsPlayer 7 (some .long) 2 := ⟨sy_mem 1253 (by decide +kernel) rfl, sy_mem 75 (by decide +kernel) rfl, by decide +kernel, by decide⟩
theorem kv_X7_tellsPlayer : sy_MV yX7_tellsPlayer := ⟨sy_mem 1252 (by decide +kernel) rfl, sy_mem 66 (by decide +kernel) rfl⟩
theorem sy_sheet {i : Int32} (h : ¬ (i < 0 ∨ 4 ≤ i.toNatClampNeg)) : sy_is4 (53 + 2 * sy_ix i) := by
  have h1 : i.toNatClampNeg < 4 := Nat.not_le.mp fun q => h (Or.inr q)
  show 53 + 2 * i.toNatClampNeg = 53 ∨ 53 + 2 * i.toNatClampNeg = 55 ∨ 53 + 2 * i.toNatClampNeg = 57 ∨ 53 + 2 * i.toNatClampNeg = 59
  omega
def sy_FU : Nat := 1000
section TypedCalls
variable {α : Type} {cv : α → Option Value} {κ : Kx} {cc : ByteArray} {nL d : Nat} {own : String} {ret : Option FieldType} {pc : Nat} {lv : List (Option Value)} {st : List Value} {σ : St}
theorem ab_cVi (hκ : Gd κ cc nL own ret d) {idx k ci n nL' d' : Nat} {y : MethodName} {cc' : ByteArray} {ret' : Option FieldType} {fk : List (Option Nat)} {q : vw_C} {vs stk : List Value} {r1 : Option (Int32 × St)} {f : Int32 → St → Option (α × St)} (hd : decode cc pc = .ok (.invokevirtual idx, 3)) (hl : Cond.methodLink own idx y ∈ sy_T) (hI : sy_MI y cc' nL' ret' n) (hV : sy_MV y) (hsh : sy_shp[k]? = some (.inr (.inr (ci, fk)))) (hci : vwCl[ci]? = some q) (hq : y.cls = q.1) (hM : Cok sy_vi y cc' nL' ret' d' (.ref k :: vs) σ r1) (hn : vs.length = n) (hdd : d' < d) (hst : (st.map Value.category).sum ≤ 8) (hstk : stk = vs.reverse ++ .ref k :: st) (kk : ∀ (x : Int32) (σ1 : St), Ab cv κ (pc + 3) lv (.int x :: st) σ1 (f x σ1)) : Ab cv κ pc lv stk σ (sy_bd r1 f) := ab_cV hκ hd hl hI hV hsh hci hq hM hn hdd hst hstk kk
theorem ab_cVl (hκ : Gd κ cc nL own ret d) {idx k ci n nL' d' : Nat} {y : MethodName} {cc' : ByteArray} {ret' : Option FieldType} {fk : List (Option Nat)} {q : vw_C} {vs stk : List Value} {r1 : Option (Int64 × St)} {f : Int64 → St → Option (α × St)} (hd : decode cc pc = .ok (.invokevirtual idx, 3)) (hl : Cond.methodLink own idx y ∈ sy_T) (hI : sy_MI y cc' nL' ret' n) (hV : sy_MV y) (hsh : sy_shp[k]? = some (.inr (.inr (ci, fk)))) (hci : vwCl[ci]? = some q) (hq : y.cls = q.1) (hM : Cok sy_vl y cc' nL' ret' d' (.ref k :: vs) σ r1) (hn : vs.length = n) (hdd : d' < d) (hst : (st.map Value.category).sum ≤ 8) (hstk : stk = vs.reverse ++ .ref k :: st) (kk : ∀ (x : Int64) (σ1 : St), Ab cv κ (pc + 3) lv (.long x :: st) σ1 (f x σ1)) : Ab cv κ pc lv stk σ (sy_bd r1 f) := ab_cV hκ hd hl hI hV hsh hci hq hM hn hdd hst hstk kk
theorem ab_cVr (hκ : Gd κ cc nL own ret d) {idx k ci n nL' d' : Nat} {y : MethodName} {cc' : ByteArray} {ret' : Option FieldType} {fk : List (Option Nat)} {q : vw_C} {vs stk : List Value} {r1 : Option (Nat × St)} {f : Nat → St → Option (α × St)} (hd : decode cc pc = .ok (.invokevirtual idx, 3)) (hl : Cond.methodLink own idx y ∈ sy_T) (hI : sy_MI y cc' nL' ret' n) (hV : sy_MV y) (hsh : sy_shp[k]? = some (.inr (.inr (ci, fk)))) (hci : vwCl[ci]? = some q) (hq : y.cls = q.1) (hM : Cok sy_vr y cc' nL' ret' d' (.ref k :: vs) σ r1) (hn : vs.length = n) (hdd : d' < d) (hst : (st.map Value.category).sum ≤ 8) (hstk : stk = vs.reverse ++ .ref k :: st) (kk : ∀ (x : Nat) (σ1 : St), Ab cv κ (pc + 3) lv (.ref x :: st) σ1 (f x σ1)) : Ab cv κ pc lv stk σ (sy_bd r1 f) := ab_cV hκ hd hl hI hV hsh hci hq hM hn hdd hst hstk kk
theorem ab_cVv (hκ : Gd κ cc nL own ret d) {idx k ci n nL' d' : Nat} {y : MethodName} {cc' : ByteArray} {ret' : Option FieldType} {fk : List (Option Nat)} {q : vw_C} {vs stk : List Value} {r1 : Option (Unit × St)} {f : Unit → St → Option (α × St)} (hd : decode cc pc = .ok (.invokevirtual idx, 3)) (hl : Cond.methodLink own idx y ∈ sy_T) (hI : sy_MI y cc' nL' ret' n) (hV : sy_MV y) (hsh : sy_shp[k]? = some (.inr (.inr (ci, fk)))) (hci : vwCl[ci]? = some q) (hq : y.cls = q.1) (hM : Cok sy_cu y cc' nL' ret' d' (.ref k :: vs) σ r1) (hn : vs.length = n) (hdd : d' < d) (hst : (st.map Value.category).sum ≤ 8) (hstk : stk = vs.reverse ++ .ref k :: st) (kk : ∀ (x : Unit) (σ1 : St), Ab cv κ (pc + 3) lv (st) σ1 (f x σ1)) : Ab cv κ pc lv stk σ (sy_bd r1 f) := ab_cV hκ hd hl hI hV hsh hci hq hM hn hdd hst hstk kk
theorem ab_cSi (hκ : Gd κ cc nL own ret d) {idx n nL' d' : Nat} {y : MethodName} {cc' : ByteArray} {ret' : Option FieldType} {vs stk : List Value} {r1 : Option (Int32 × St)} {f : Int32 → St → Option (α × St)} (hd : decode cc pc = .ok (.invokestatic idx, 3)) (hl : Cond.methodLink own idx y ∈ sy_T) (hI : sy_MI y cc' nL' ret' n) (hV : Cond.static y ∈ sy_T) (hM : Cok sy_vi y cc' nL' ret' d' (vs) σ r1) (hn : vs.length = n) (hdd : d' < d) (hst : (st.map Value.category).sum ≤ 8) (hstk : stk = vs.reverse ++ st) (kk : ∀ (x : Int32) (σ1 : St), Ab cv κ (pc + 3) lv (.int x :: st) σ1 (f x σ1)) : Ab cv κ pc lv stk σ (sy_bd r1 f) := ab_cS hκ hd hl hI hV hM hn hdd hst hstk kk
theorem ab_cSl (hκ : Gd κ cc nL own ret d) {idx n nL' d' : Nat} {y : MethodName} {cc' : ByteArray} {ret' : Option FieldType} {vs stk : List Value} {r1 : Option (Int64 × St)} {f : Int64 → St → Option (α × St)} (hd : decode cc pc = .ok (.invokestatic idx, 3)) (hl : Cond.methodLink own idx y ∈ sy_T) (hI : sy_MI y cc' nL' ret' n) (hV : Cond.static y ∈ sy_T) (hM : Cok sy_vl y cc' nL' ret' d' (vs) σ r1) (hn : vs.length = n) (hdd : d' < d) (hst : (st.map Value.category).sum ≤ 8) (hstk : stk = vs.reverse ++ st) (kk : ∀ (x : Int64) (σ1 : St), Ab cv κ (pc + 3) lv (.long x :: st) σ1 (f x σ1)) : Ab cv κ pc lv stk σ (sy_bd r1 f) := ab_cS hκ hd hl hI hV hM hn hdd hst hstk kk
theorem ab_cSr (hκ : Gd κ cc nL own ret d) {idx n nL' d' : Nat} {y : MethodName} {cc' : ByteArray} {ret' : Option FieldType} {vs stk : List Value} {r1 : Option (Nat × St)} {f : Nat → St → Option (α × St)} (hd : decode cc pc = .ok (.invokestatic idx, 3)) (hl : Cond.methodLink own idx y ∈ sy_T) (hI : sy_MI y cc' nL' ret' n) (hV : Cond.static y ∈ sy_T) (hM : Cok sy_vr y cc' nL' ret' d' (vs) σ r1) (hn : vs.length = n) (hdd : d' < d) (hst : (st.map Value.category).sum ≤ 8) (hstk : stk = vs.reverse ++ st) (kk : ∀ (x : Nat) (σ1 : St), Ab cv κ (pc + 3) lv (.ref x :: st) σ1 (f x σ1)) : Ab cv κ pc lv stk σ (sy_bd r1 f) := ab_cS hκ hd hl hI hV hM hn hdd hst hstk kk
theorem ab_cSv (hκ : Gd κ cc nL own ret d) {idx n nL' d' : Nat} {y : MethodName} {cc' : ByteArray} {ret' : Option FieldType} {vs stk : List Value} {r1 : Option (Unit × St)} {f : Unit → St → Option (α × St)} (hd : decode cc pc = .ok (.invokestatic idx, 3)) (hl : Cond.methodLink own idx y ∈ sy_T) (hI : sy_MI y cc' nL' ret' n) (hV : Cond.static y ∈ sy_T) (hM : Cok sy_cu y cc' nL' ret' d' (vs) σ r1) (hn : vs.length = n) (hdd : d' < d) (hst : (st.map Value.category).sum ≤ 8) (hstk : stk = vs.reverse ++ st) (kk : ∀ (x : Unit) (σ1 : St), Ab cv κ (pc + 3) lv (st) σ1 (f x σ1)) : Ab cv κ pc lv stk σ (sy_bd r1 f) := ab_cS hκ hd hl hI hV hM hn hdd hst hstk kk
theorem ab_cNi (hκ : Gd κ cc nL own ret d) {idx n nL' d' : Nat} {y : MethodName} {host : String} {cc' : ByteArray} {ret' : Option FieldType} {vs stk : List Value} {r1 : Option (Int32 × St)} {f : Int32 → St → Option (α × St)} (hd : decode cc pc = .ok (.invokestatic idx, 3)) (hl : ∀ s : State, va_Nw sy_n1 s → va_Nw sy_n2 s → va_Nw (Cond.methodLinkNest own idx y host) s) (hI : sy_MI y cc' nL' ret' n) (hV : Cond.static y ∈ sy_T) (hM : Cok sy_vi y cc' nL' ret' d' (vs) σ r1) (hn : vs.length = n) (hdd : d' < d) (hst : (st.map Value.category).sum ≤ 8) (hstk : stk = vs.reverse ++ st) (kk : ∀ (x : Int32) (σ1 : St), Ab cv κ (pc + 3) lv (.int x :: st) σ1 (f x σ1)) : Ab cv κ pc lv stk σ (sy_bd r1 f) := ab_cN hκ hd hl hI hV hM hn hdd hst hstk kk
theorem ab_cNl (hκ : Gd κ cc nL own ret d) {idx n nL' d' : Nat} {y : MethodName} {host : String} {cc' : ByteArray} {ret' : Option FieldType} {vs stk : List Value} {r1 : Option (Int64 × St)} {f : Int64 → St → Option (α × St)} (hd : decode cc pc = .ok (.invokestatic idx, 3)) (hl : ∀ s : State, va_Nw sy_n1 s → va_Nw sy_n2 s → va_Nw (Cond.methodLinkNest own idx y host) s) (hI : sy_MI y cc' nL' ret' n) (hV : Cond.static y ∈ sy_T) (hM : Cok sy_vl y cc' nL' ret' d' (vs) σ r1) (hn : vs.length = n) (hdd : d' < d) (hst : (st.map Value.category).sum ≤ 8) (hstk : stk = vs.reverse ++ st) (kk : ∀ (x : Int64) (σ1 : St), Ab cv κ (pc + 3) lv (.long x :: st) σ1 (f x σ1)) : Ab cv κ pc lv stk σ (sy_bd r1 f) := ab_cN hκ hd hl hI hV hM hn hdd hst hstk kk
theorem ab_cNr (hκ : Gd κ cc nL own ret d) {idx n nL' d' : Nat} {y : MethodName} {host : String} {cc' : ByteArray} {ret' : Option FieldType} {vs stk : List Value} {r1 : Option (Nat × St)} {f : Nat → St → Option (α × St)} (hd : decode cc pc = .ok (.invokestatic idx, 3)) (hl : ∀ s : State, va_Nw sy_n1 s → va_Nw sy_n2 s → va_Nw (Cond.methodLinkNest own idx y host) s) (hI : sy_MI y cc' nL' ret' n) (hV : Cond.static y ∈ sy_T) (hM : Cok sy_vr y cc' nL' ret' d' (vs) σ r1) (hn : vs.length = n) (hdd : d' < d) (hst : (st.map Value.category).sum ≤ 8) (hstk : stk = vs.reverse ++ st) (kk : ∀ (x : Nat) (σ1 : St), Ab cv κ (pc + 3) lv (.ref x :: st) σ1 (f x σ1)) : Ab cv κ pc lv stk σ (sy_bd r1 f) := ab_cN hκ hd hl hI hV hM hn hdd hst hstk kk
theorem ab_cNv (hκ : Gd κ cc nL own ret d) {idx n nL' d' : Nat} {y : MethodName} {host : String} {cc' : ByteArray} {ret' : Option FieldType} {vs stk : List Value} {r1 : Option (Unit × St)} {f : Unit → St → Option (α × St)} (hd : decode cc pc = .ok (.invokestatic idx, 3)) (hl : ∀ s : State, va_Nw sy_n1 s → va_Nw sy_n2 s → va_Nw (Cond.methodLinkNest own idx y host) s) (hI : sy_MI y cc' nL' ret' n) (hV : Cond.static y ∈ sy_T) (hM : Cok sy_cu y cc' nL' ret' d' (vs) σ r1) (hn : vs.length = n) (hdd : d' < d) (hst : (st.map Value.category).sum ≤ 8) (hstk : stk = vs.reverse ++ st) (kk : ∀ (x : Unit) (σ1 : St), Ab cv κ (pc + 3) lv (st) σ1 (f x σ1)) : Ab cv κ pc lv stk σ (sy_bd r1 f) := ab_cN hκ hd hl hI hV hM hn hdd hst hstk kk
end TypedCalls
def sy_min (x y : Int32) : Int32 := if y < x then y else x
def sy_max (x y : Int32) : Int32 := if x < y then y else x
def sy_abs (x : Int32) : Int32 := if 0 ≤ x then x else 0 - x
theorem sy_k_ini : Cond.initialized "java/lang/Math" ∈ sy_T := List.mem_filter.mpr ⟨by decide +kernel, rfl⟩
theorem sy_k_min : Cond.static Lib.Math.min.name ∈ sy_T ∧ Cond.code Lib.Math.min.name Lib.Math.min.code 2 (some .int) ∈ sy_T := ⟨sy_mem 421 (by decide +kernel) rfl, sy_mem 422 (by decide +kernel) rfl⟩
theorem sy_k_max : Cond.static Lib.Math.max.name ∈ sy_T ∧ Cond.code Lib.Math.max.name Lib.Math.max.code 2 (some .int) ∈ sy_T := ⟨sy_mem 670 (by decide +kernel) rfl, sy_mem 671 (by decide +kernel) rfl⟩
theorem sy_k_abs : Cond.static Lib.Math.abs.name ∈ sy_T ∧ Cond.code Lib.Math.abs.name Lib.Math.abs.code 1 (some .int) ∈ sy_T := ⟨sy_mem 535 (by decide +kernel) rfl, sy_mem 536 (by decide +kernel) rfl⟩
section MathCalls
variable {α : Type} {cv : α → Option Value} {κ : Kx} {cc : ByteArray} {nL d : Nat} {own : String} {ret : Option FieldType} {pc : Nat} {lv : List (Option Value)} {st : List Value} {σ : St} {res : Option (α × St)}
theorem ab_mmin (hκ : Gd κ cc nL own ret d) {idx : Nat} {x y : Int32} (hd : decode cc pc = .ok (.invokestatic idx, 3)) (hl : Cond.methodLink own idx Lib.Math.min.name ∈ sy_T) (hd1 : 1 ≤ d) (hst : (st.map Value.category).sum ≤ 8) (k : Ab cv κ (pc + 3) lv (.int (sy_min x y) :: st) σ res) : Ab cv κ pc lv (.int y :: .int x :: st) σ res := by
  obtain ⟨p, l, e, R, s, m, args, below, meth, c, cells, slots, Q, D, A, ad, cI, cR⟩ := κ
  obtain ⟨hx, hb, hml, hown, hts, hK, hinj, hA, hfr, hlo, hce, hsl, hrt, hn1, hn2⟩ := hκ
  intro r σ' hr hret H locs ls hP hS hL
  exact va_mmin hx hb hL.1.symm hown (hts _ hl) (hts _ sy_k_min.1) (hts _ sy_k_ini) (hts _ sy_k_min.2) (by omega) (by have := sy_cat (ad := ad) hst; omega) hce hsl hd (k r σ' hr hret H locs ls hP hS hL)
theorem ab_mmax (hκ : Gd κ cc nL own ret d) {idx : Nat} {x y : Int32} (hd : decode cc pc = .ok (.invokestatic idx, 3)) (hl : Cond.methodLink own idx Lib.Math.max.name ∈ sy_T) (hd1 : 1 ≤ d) (hst : (st.map Value.category).sum ≤ 8) (k : Ab cv κ (pc + 3) lv (.int (sy_max x y) :: st) σ res) : Ab cv κ pc lv (.int y :: .int x :: st) σ res := by
  obtain ⟨p, l, e, R, s, m, args, below, meth, c, cells, slots, Q, D, A, ad, cI, cR⟩ := κ
  obtain ⟨hx, hb, hml, hown, hts, hK, hinj, hA, hfr, hlo, hce, hsl, hrt, hn1, hn2⟩ := hκ
  intro r σ' hr hret H locs ls hP hS hL
  exact va_mmax hx hb hL.1.symm hown (hts _ hl) (hts _ sy_k_max.1) (hts _ sy_k_ini) (hts _ sy_k_max.2) (by omega) (by have := sy_cat (ad := ad) hst; omega) hce hsl hd (k r σ' hr hret H locs ls hP hS hL)
theorem ab_mabs (hκ : Gd κ cc nL own ret d) {idx : Nat} {x : Int32} (hd : decode cc pc = .ok (.invokestatic idx, 3)) (hl : Cond.methodLink own idx Lib.Math.abs.name ∈ sy_T) (hd1 : 1 ≤ d) (hst : (st.map Value.category).sum ≤ 8) (k : Ab cv κ (pc + 3) lv (.int (sy_abs x) :: st) σ res) : Ab cv κ pc lv (.int x :: st) σ res := by
  obtain ⟨p, l, e, R, s, m, args, below, meth, c, cells, slots, Q, D, A, ad, cI, cR⟩ := κ
  obtain ⟨hx, hb, hml, hown, hts, hK, hinj, hA, hfr, hlo, hce, hsl, hrt, hn1, hn2⟩ := hκ
  intro r σ' hr hret H locs ls hP hS hL
  exact va_mabs hx hb hL.1.symm hown (hts _ hl) (hts _ sy_k_abs.1) (hts _ sy_k_ini) (hts _ sy_k_abs.2) (by omega) (by have := sy_cat (ad := ad) hst; omega) hce hsl hd (k r σ' hr hret H locs ls hP hS hL)
end MathCalls
