/-! ===== the constructors (printed by wip/whole/gen_cons.py) ===== -/
theorem cw_ca {κ : Kw} {cells slots pc : Nat} {x : Nat × va_E} {tl w : va_W} {lv : List (Nat × Value)} {st : List Value} (k : Cw κ cells slots (x :: (tl ++ w)) pc lv st) : Cw κ cells slots ((x :: tl) ++ w) pc lv st := k
theorem cw_w {κ : Kw} {cells slots pc : Nat} {ws ws' : va_W} {lv : List (Nat × Value)} {st : List Value} (h : ws = ws') (k : Cw κ cells slots ws' pc lv st) : Cw κ cells slots ws pc lv st := by
  rw [h]; exact k
theorem jf_0 : ∀ j, j < 15 → defaultValue (tyX0 j) = vp_V [.int 0, .null, .null, .null, .null, .int 0, .null, .null, .null, .int 0, .int 0, .null, .null, .int 0, .int 0] j := fun j hj => by
  rcases (show j = 0 ∨ j = 1 ∨ j = 2 ∨ j = 3 ∨ j = 4 ∨ j = 5 ∨ j = 6 ∨ j = 7 ∨ j = 8 ∨ j = 9 ∨ j = 10 ∨ j = 11 ∨ j = 12 ∨ j = 13 ∨ j = 14 by omega) with rfl | rfl | rfl | rfl | rfl | rfl | rfl | rfl | rfl | rfl | rfl | rfl | rfl | rfl | rfl <;> rfl
theorem ji_0 : sy_MI yX0_init cX0_init 1 none 0 := ⟨(sy_mem 116 (by decide +kernel) rfl), (sy_mem 70 (by decide +kernel) rfl), by decide +kernel, by decide⟩
theorem jm_0 : Cond.instanceMethod yX0_init ∈ sy_T := (sy_mem 115 (by decide +kernel) rfl)
theorem jn_0 : Cond.instantiable RX0 15 ∈ sy_T ∧ Cond.initialized RX0 ∈ sy_T := ⟨(sy_mem 113 (by decide +kernel) rfl), (sy_mem 70 (by decide +kernel) rfl)⟩
theorem jf_1 : ∀ j, j < 4 → defaultValue (tyX1 j) = vp_V [.int 0, .int 0, .int 0, .int 0] j := fun j hj => by
  rcases (show j = 0 ∨ j = 1 ∨ j = 2 ∨ j = 3 by omega) with rfl | rfl | rfl | rfl <;> rfl
theorem ji_1 : sy_MI yX1_init cX1_init 1 none 0 := ⟨(sy_mem 280 (by decide +kernel) rfl), (sy_mem 73 (by decide +kernel) rfl), by decide +kernel, by decide⟩
theorem jm_1 : Cond.instanceMethod yX1_init ∈ sy_T := (sy_mem 279 (by decide +kernel) rfl)
theorem jn_1 : Cond.instantiable RX1 4 ∈ sy_T ∧ Cond.initialized RX1 ∈ sy_T := ⟨(sy_mem 277 (by decide +kernel) rfl), (sy_mem 73 (by decide +kernel) rfl)⟩
theorem jf_2 : ∀ j, j < 3 → defaultValue (tyX2 j) = vp_V [.null, .null, .int 0] j := fun j hj => by
  rcases (show j = 0 ∨ j = 1 ∨ j = 2 by omega) with rfl | rfl | rfl <;> rfl
theorem ji_2 : sy_MI yX2_init cX2_init 1 none 0 := ⟨(sy_mem 263 (by decide +kernel) rfl), (sy_mem 72 (by decide +kernel) rfl), by decide +kernel, by decide⟩
theorem jm_2 : Cond.instanceMethod yX2_init ∈ sy_T := (sy_mem 262 (by decide +kernel) rfl)
theorem jn_2 : Cond.instantiable RX2 3 ∈ sy_T ∧ Cond.initialized RX2 ∈ sy_T := ⟨(sy_mem 260 (by decide +kernel) rfl), (sy_mem 72 (by decide +kernel) rfl)⟩
theorem jf_3 : ∀ j, j < 17 → defaultValue (tyX3 j) = vp_V [.null, .null, .null, .null, .null, .null, .null, .int 0, .int 0, .int 0, .int 0, .int 0, .null, .int 0, .int 0, .int 0, .int 0] j := fun j hj => by
  rcases (show j = 0 ∨ j = 1 ∨ j = 2 ∨ j = 3 ∨ j = 4 ∨ j = 5 ∨ j = 6 ∨ j = 7 ∨ j = 8 ∨ j = 9 ∨ j = 10 ∨ j = 11 ∨ j = 12 ∨ j = 13 ∨ j = 14 ∨ j = 15 ∨ j = 16 by omega) with rfl | rfl | rfl | rfl | rfl | rfl | rfl | rfl | rfl | rfl | rfl | rfl | rfl | rfl | rfl | rfl | rfl <;> rfl
theorem ji_3 : sy_MI yX3_init cX3_init 1 none 0 := ⟨(sy_mem 192 (by decide +kernel) rfl), (sy_mem 71 (by decide +kernel) rfl), by decide +kernel, by decide⟩
theorem jm_3 : Cond.instanceMethod yX3_init ∈ sy_T := (sy_mem 191 (by decide +kernel) rfl)
theorem jn_3 : Cond.instantiable RX3 17 ∈ sy_T ∧ Cond.initialized RX3 ∈ sy_T := ⟨(sy_mem 189 (by decide +kernel) rfl), (sy_mem 71 (by decide +kernel) rfl)⟩
theorem jf_4 : ∀ j, j < 4 → defaultValue (tyX4 j) = vp_V [.int 0, .int 0, .int 0, .null] j := fun j hj => by
  rcases (show j = 0 ∨ j = 1 ∨ j = 2 ∨ j = 3 by omega) with rfl | rfl | rfl | rfl <;> rfl
theorem ji_4 : sy_MI yX4_init cX4_init 1 none 0 := ⟨(sy_mem 304 (by decide +kernel) rfl), (sy_mem 74 (by decide +kernel) rfl), by decide +kernel, by decide⟩
theorem jm_4 : Cond.instanceMethod yX4_init ∈ sy_T := (sy_mem 303 (by decide +kernel) rfl)
theorem jn_4 : Cond.instantiable RX4 4 ∈ sy_T ∧ Cond.initialized RX4 ∈ sy_T := ⟨(sy_mem 301 (by decide +kernel) rfl), (sy_mem 74 (by decide +kernel) rfl)⟩
theorem jf_5 : ∀ j, j < 5 → defaultValue (tyX5 j) = vp_V [.int 0, .int 0, .int 0, .null, .int 0] j := fun j hj => by
  rcases (show j = 0 ∨ j = 1 ∨ j = 2 ∨ j = 3 ∨ j = 4 by omega) with rfl | rfl | rfl | rfl | rfl <;> rfl
theorem ji_5 : sy_MI yX5_init cX5_init 2 none 1 := ⟨(sy_mem 92 (by decide +kernel) rfl), (sy_mem 69 (by decide +kernel) rfl), by decide +kernel, by decide⟩
theorem jm_5 : Cond.instanceMethod yX5_init ∈ sy_T := (sy_mem 91 (by decide +kernel) rfl)
theorem jn_5 : Cond.instantiable RX5 5 ∈ sy_T ∧ Cond.initialized RX5 ∈ sy_T := ⟨(sy_mem 89 (by decide +kernel) rfl), (sy_mem 69 (by decide +kernel) rfl)⟩
theorem jf_6 : ∀ j, j < 17 → defaultValue (tyX6 j) = vp_V [.null, .null, .null, .null, .null, .null, .null, .null, .null, .null, .null, .null, .null, .null, .int 0, .int 0, .int 0] j := fun j hj => by
  rcases (show j = 0 ∨ j = 1 ∨ j = 2 ∨ j = 3 ∨ j = 4 ∨ j = 5 ∨ j = 6 ∨ j = 7 ∨ j = 8 ∨ j = 9 ∨ j = 10 ∨ j = 11 ∨ j = 12 ∨ j = 13 ∨ j = 14 ∨ j = 15 ∨ j = 16 by omega) with rfl | rfl | rfl | rfl | rfl | rfl | rfl | rfl | rfl | rfl | rfl | rfl | rfl | rfl | rfl | rfl | rfl <;> rfl
theorem ji_6 : sy_MI yX6_init cX6_init 2 none 0 := ⟨(sy_mem 84 (by decide +kernel) rfl), (sy_mem 68 (by decide +kernel) rfl), by decide +kernel, by decide⟩
theorem jm_6 : Cond.instanceMethod yX6_init ∈ sy_T := (sy_mem 83 (by decide +kernel) rfl)
theorem jn_6 : Cond.instantiable RX6 17 ∈ sy_T ∧ Cond.initialized RX6 ∈ sy_T := ⟨(sy_mem 81 (by decide +kernel) rfl), (sy_mem 68 (by decide +kernel) rfl)⟩
theorem jf_7 : ∀ j, j < 32 → defaultValue (tyX7 j) = vp_V [.null, .null, .null, .null, .int 0, .null, .null, .int 0, .null, .int 0, .null, .int 0, .int 0, .null, .int 0, .int 0, .int 0, .int 0, .int 0, .int 0, .null, .null, .null, .null, .null, .null, .null, .null, .int 0, .null, .null, .int 0] j := fun j hj => by
  rcases (show j = 0 ∨ j = 1 ∨ j = 2 ∨ j = 3 ∨ j = 4 ∨ j = 5 ∨ j = 6 ∨ j = 7 ∨ j = 8 ∨ j = 9 ∨ j = 10 ∨ j = 11 ∨ j = 12 ∨ j = 13 ∨ j = 14 ∨ j = 15 ∨ j = 16 ∨ j = 17 ∨ j = 18 ∨ j = 19 ∨ j = 20 ∨ j = 21 ∨ j = 22 ∨ j = 23 ∨ j = 24 ∨ j = 25 ∨ j = 26 ∨ j = 27 ∨ j = 28 ∨ j = 29 ∨ j = 30 ∨ j = 31 by omega) with rfl | rfl | rfl | rfl | rfl | rfl | rfl | rfl | rfl | rfl | rfl | rfl | rfl | rfl | rfl | rfl | rfl | rfl | rfl | rfl | rfl | rfl | rfl | rfl | rfl | rfl | rfl | rfl | rfl | rfl | rfl | rfl <;> rfl
theorem ji_7 : sy_MI yX7_init cX7_init 2 none 0 := ⟨(sy_mem 795 (by decide +kernel) rfl), (sy_mem 75 (by decide +kernel) rfl), by decide +kernel, by decide⟩
theorem jm_7 : Cond.instanceMethod yX7_init ∈ sy_T := (sy_mem 794 (by decide +kernel) rfl)
theorem jn_7 : Cond.instantiable RX7 32 ∈ sy_T ∧ Cond.initialized RX7 ∈ sy_T := ⟨(sy_mem 792 (by decide +kernel) rfl), (sy_mem 75 (by decide +kernel) rfl)⟩
theorem jo_i : Cond.instanceMethod objectInit ∈ sy_T := (sy_mem 86 (by decide +kernel) rfl)
theorem jo_c : Cond.code objectInit ⟨#[0xb1]⟩ 1 none ∈ sy_T := (sy_mem 87 (by decide +kernel) rfl)
theorem jo_a : Cond.arrayClass .int ∈ sy_T := (sy_mem 111 (by decide +kernel) rfl)
def N6 (U : State) : Prop := va_Nw (.methodLinkNest RX6 23 yX0_init RX6) U ∧ va_Nw (.methodLinkNest RX6 33 yX3_init RX6) U ∧ va_Nw (.methodLinkNest RX6 43 yX2_init RX6) U ∧ va_Nw (.methodLinkNest RX6 50 yX1_init RX6) U ∧ va_Nw (.methodLinkNest RX6 88 yX4_init RX6) U ∧ va_AO RX4 U
theorem okN6 : okN N6 := ⟨fun s U hW h => ⟨va_Nw.warmM hW h.1, va_Nw.warmM hW h.2.1, va_Nw.warmM hW h.2.2.1, va_Nw.warmM hW h.2.2.2.1, va_Nw.warmM hW h.2.2.2.2.1, h.2.2.2.2.2.moved hW.alike⟩, fun U g mk a h => ⟨va_Nw.same (u := U) (U := U.calling g mk a) rfl rfl h.1, va_Nw.same (u := U) (U := U.calling g mk a) rfl rfl h.2.1, va_Nw.same (u := U) (U := U.calling g mk a) rfl rfl h.2.2.1, va_Nw.same (u := U) (U := U.calling g mk a) rfl rfl h.2.2.2.1, va_Nw.same (u := U) (U := U.calling g mk a) rfl rfl h.2.2.2.2.1, va_AO.moved (u := U) (U := U.calling g mk a) (Vm.Alike.refl U.vm) h.2.2.2.2.2⟩⟩
def RW_X5_0 (cI cR : ClassId) (h0 : Nat) (u : Nat → Nat) : va_W := [(h0, .inr (5, [.int 0, .int 32, .int 11, .ref (u 0), .int 0])), ((u 0), .inl (cI, 47, .inl (fun _ => 0)))]
set_option maxRecDepth 100000 in
set_option maxHeartbeats 4000000 in
theorem c_X5_0 : Cc yX5_init cX5_init 2 1 12 1 47 5 [.int 0, .int 0, .int 0, .null, .int 0] [.int 0] (fun _ => True) RW_X5_0 := by
  refine cc_of (own := RX5) (by decide) rfl rfl (fun h0 => Nat.le_of_ble_eq_true rfl) ?_
  intro κ cI cR h0 hκ hnm hN hret
  refine (?_ : Cw κ 0 0 [(h0, .inr (5, [.int 0, .int 0, .int 0, .null, .int 0]))] 0 [(0, .ref h0), (1, .int 0)] [])
  refine cw_aload_n (j := 0) hκ dX5_init_0 rfl rfl ?_
  refine cw_obj hκ dX5_init_1 (sy_mem 93 (by decide +kernel) rfl) jo_i jo_c (by decide) (by decide) ?_
  refine cw_aload_n (j := 0) hκ dX5_init_4 rfl rfl ?_
  refine cw_bipush (v := 47) hκ dX5_init_5 rfl ?_
  refine cw_newa (N := 47) hκ dX5_init_7 (by decide) rfl (Nat.le_of_ble_eq_true rfl) (Nat.le_of_ble_eq_true rfl) (Nat.le_of_ble_eq_true rfl) jo_a (fun q1 => ?_)
  refine cw_ca ?_
  refine cw_putF (j := 3) (fs' := [.int 0, .int 0, .int 0, .ref q1, .int 0]) hκ hnm dX5_init_9 kc_5 (by decide) (sy_mem 97 (by decide +kernel) rfl) rfl rfl rfl rfl (Nat.le_of_ble_eq_true rfl) rfl ?_
  refine cw_aload_n (j := 0) hκ dX5_init_12 rfl rfl ?_
  refine cw_iconst (v := 0) hκ dX5_init_13 rfl ?_
  refine cw_put (j := 4) (fs' := [.int 0, .int 0, .int 0, .ref q1, .int 0]) hκ dX5_init_14 kc_5 (by decide) (sy_mem 98 (by decide +kernel) rfl) rfl rfl rfl (Nat.le_of_ble_eq_true rfl) rfl ?_
  refine cw_aload_n (j := 0) hκ dX5_init_17 rfl rfl ?_
  refine cw_iload_n (j := 1) hκ dX5_init_18 rfl rfl ?_
  refine cw_putF (j := 0) (fs' := [.int 0, .int 0, .int 0, .ref q1, .int 0]) hκ hnm dX5_init_19 kc_5 (by decide) (sy_mem 94 (by decide +kernel) rfl) rfl rfl rfl rfl (Nat.le_of_ble_eq_true rfl) rfl ?_
  refine cw_aload_n (j := 0) hκ dX5_init_22 rfl rfl ?_
  refine cw_iload_n (j := 1) hκ dX5_init_23 rfl rfl ?_
  refine cw_eq_y (tgt := 32) hκ dX5_init_24 (by decide) rfl ?_
  refine cw_bipush (v := 32) hκ dX5_init_32 rfl ?_
  refine cw_putF (j := 1) (fs' := [.int 0, .int 32, .int 0, .ref q1, .int 0]) hκ hnm dX5_init_34 kc_5 (by decide) (sy_mem 95 (by decide +kernel) rfl) rfl rfl rfl rfl (Nat.le_of_ble_eq_true rfl) rfl ?_
  refine cw_aload_n (j := 0) hκ dX5_init_37 rfl rfl ?_
  refine cw_iload_n (j := 1) hκ dX5_init_38 rfl rfl ?_
  refine cw_eq_y (tgt := 47) hκ dX5_init_39 (by decide) rfl ?_
  refine cw_bipush (v := 11) hκ dX5_init_47 rfl ?_
  refine cw_putF (j := 2) (fs' := [.int 0, .int 32, .int 11, .ref q1, .int 0]) hκ hnm dX5_init_49 kc_5 (by decide) (sy_mem 96 (by decide +kernel) rfl) rfl rfl rfl rfl (Nat.le_of_ble_eq_true rfl) rfl ?_
  exact hret (fun k => ([q1] : List Nat).getD k 0) _ _ dX5_init_52
def RW_X5_1 (cI cR : ClassId) (h0 : Nat) (u : Nat → Nat) : va_W := [(h0, .inr (5, [.int 1, .int 47, .int 16, .ref (u 0), .int 0])), ((u 0), .inl (cI, 47, .inl (fun _ => 0)))]
set_option maxRecDepth 100000 in
set_option maxHeartbeats 4000000 in
theorem c_X5_1 : Cc yX5_init cX5_init 2 1 12 1 47 5 [.int 0, .int 0, .int 0, .null, .int 0] [.int 1] (fun _ => True) RW_X5_1 := by
  refine cc_of (own := RX5) (by decide) rfl rfl (fun h0 => Nat.le_of_ble_eq_true rfl) ?_
  intro κ cI cR h0 hκ hnm hN hret
  refine (?_ : Cw κ 0 0 [(h0, .inr (5, [.int 0, .int 0, .int 0, .null, .int 0]))] 0 [(0, .ref h0), (1, .int 1)] [])
  refine cw_aload_n (j := 0) hκ dX5_init_0 rfl rfl ?_
  refine cw_obj hκ dX5_init_1 (sy_mem 93 (by decide +kernel) rfl) jo_i jo_c (by decide) (by decide) ?_
  refine cw_aload_n (j := 0) hκ dX5_init_4 rfl rfl ?_
  refine cw_bipush (v := 47) hκ dX5_init_5 rfl ?_
  refine cw_newa (N := 47) hκ dX5_init_7 (by decide) rfl (Nat.le_of_ble_eq_true rfl) (Nat.le_of_ble_eq_true rfl) (Nat.le_of_ble_eq_true rfl) jo_a (fun q1 => ?_)
  refine cw_ca ?_
  refine cw_putF (j := 3) (fs' := [.int 0, .int 0, .int 0, .ref q1, .int 0]) hκ hnm dX5_init_9 kc_5 (by decide) (sy_mem 97 (by decide +kernel) rfl) rfl rfl rfl rfl (Nat.le_of_ble_eq_true rfl) rfl ?_
  refine cw_aload_n (j := 0) hκ dX5_init_12 rfl rfl ?_
  refine cw_iconst (v := 0) hκ dX5_init_13 rfl ?_
  refine cw_put (j := 4) (fs' := [.int 0, .int 0, .int 0, .ref q1, .int 0]) hκ dX5_init_14 kc_5 (by decide) (sy_mem 98 (by decide +kernel) rfl) rfl rfl rfl (Nat.le_of_ble_eq_true rfl) rfl ?_
  refine cw_aload_n (j := 0) hκ dX5_init_17 rfl rfl ?_
  refine cw_iload_n (j := 1) hκ dX5_init_18 rfl rfl ?_
  refine cw_putF (j := 0) (fs' := [.int 1, .int 0, .int 0, .ref q1, .int 0]) hκ hnm dX5_init_19 kc_5 (by decide) (sy_mem 94 (by decide +kernel) rfl) rfl rfl rfl rfl (Nat.le_of_ble_eq_true rfl) rfl ?_
  refine cw_aload_n (j := 0) hκ dX5_init_22 rfl rfl ?_
  refine cw_iload_n (j := 1) hκ dX5_init_23 rfl rfl ?_
  refine cw_eq_n (tgt := 32) hκ dX5_init_24 (by decide) (by decide) ?_
  refine cw_bipush (v := 47) hκ dX5_init_27 rfl ?_
  refine cw_goto (tgt := 34) hκ dX5_init_29 (by decide) ?_
  refine cw_putF (j := 1) (fs' := [.int 1, .int 47, .int 0, .ref q1, .int 0]) hκ hnm dX5_init_34 kc_5 (by decide) (sy_mem 95 (by decide +kernel) rfl) rfl rfl rfl rfl (Nat.le_of_ble_eq_true rfl) rfl ?_
  refine cw_aload_n (j := 0) hκ dX5_init_37 rfl rfl ?_
  refine cw_iload_n (j := 1) hκ dX5_init_38 rfl rfl ?_
  refine cw_eq_n (tgt := 47) hκ dX5_init_39 (by decide) (by decide) ?_
  refine cw_bipush (v := 16) hκ dX5_init_42 rfl ?_
  refine cw_goto (tgt := 49) hκ dX5_init_44 (by decide) ?_
  refine cw_putF (j := 2) (fs' := [.int 1, .int 47, .int 16, .ref q1, .int 0]) hκ hnm dX5_init_49 kc_5 (by decide) (sy_mem 96 (by decide +kernel) rfl) rfl rfl rfl rfl (Nat.le_of_ble_eq_true rfl) rfl ?_
  exact hret (fun k => ([q1] : List Nat).getD k 0) _ _ dX5_init_52
def RW_X0 (cI cR : ClassId) (h0 : Nat) (u : Nat → Nat) : va_W := [(h0, .inr (0, [.int 0, .ref (u 0), .ref (u 1), .ref (u 2), .ref (u 3), .int 0, .ref (u 4), .ref (u 5), .ref (u 6), .int 40, .int 0, .ref (u 7), .ref (u 8), .int 0, .int (-1)])), ((u 0), .inl (cI, 11, .inl (fun _ => 0))), ((u 1), .inl (cI, 11, .inl (fun _ => 0))), ((u 2), .inl (cI, 11, .inl (fun _ => 0))), ((u 3), .inl (cI, 11, .inl (fun _ => 0))), ((u 4), .inl (cI, 16, .inl (fun _ => 0))), ((u 5), .inl (cI, 16, .inl (fun _ => 0))), ((u 6), .inl (cI, 24, .inl (fun _ => 0))), ((u 7), .inl (cI, 8, .inl (fun _ => 0))), ((u 8), .inl (cI, 8, .inl (fun _ => 0)))]
set_option maxRecDepth 100000 in
set_option maxHeartbeats 4000000 in
theorem c_X0 : Cc yX0_init cX0_init 1 1 12 9 116 0 [.int 0, .null, .null, .null, .null, .int 0, .null, .null, .null, .int 0, .int 0, .null, .null, .int 0, .int 0] [] (fun _ => True) RW_X0 := by
  refine cc_of (own := RX0) (by decide) rfl rfl (fun h0 => Nat.le_of_ble_eq_true rfl) ?_
  intro κ cI cR h0 hκ hnm hN hret
  refine (?_ : Cw κ 0 0 [(h0, .inr (0, [.int 0, .null, .null, .null, .null, .int 0, .null, .null, .null, .int 0, .int 0, .null, .null, .int 0, .int 0]))] 0 [(0, .ref h0)] [])
  refine cw_aload_n (j := 0) hκ dX0_init_0 rfl rfl ?_
  refine cw_obj hκ dX0_init_1 (sy_mem 117 (by decide +kernel) rfl) jo_i jo_c (by decide) (by decide) ?_
  refine cw_aload_n (j := 0) hκ dX0_init_4 rfl rfl ?_
  refine cw_iconst (v := 0) hκ dX0_init_5 rfl ?_
  refine cw_put (j := 0) (fs' := [.int 0, .null, .null, .null, .null, .int 0, .null, .null, .null, .int 0, .int 0, .null, .null, .int 0, .int 0]) hκ dX0_init_6 kc_0 (by decide) (sy_mem 118 (by decide +kernel) rfl) rfl rfl rfl (Nat.le_of_ble_eq_true rfl) rfl ?_
  refine cw_aload_n (j := 0) hκ dX0_init_9 rfl rfl ?_
  refine cw_bipush (v := 11) hκ dX0_init_10 rfl ?_
  refine cw_newa (N := 11) hκ dX0_init_12 (by decide) rfl (Nat.le_of_ble_eq_true rfl) (Nat.le_of_ble_eq_true rfl) (Nat.le_of_ble_eq_true rfl) jo_a (fun q1 => ?_)
  refine cw_ca ?_
  refine cw_putF (j := 1) (fs' := [.int 0, .ref q1, .null, .null, .null, .int 0, .null, .null, .null, .int 0, .int 0, .null, .null, .int 0, .int 0]) hκ hnm dX0_init_14 kc_0 (by decide) (sy_mem 121 (by decide +kernel) rfl) rfl rfl rfl rfl (Nat.le_of_ble_eq_true rfl) rfl ?_
  refine cw_aload_n (j := 0) hκ dX0_init_17 rfl rfl ?_
  refine cw_bipush (v := 11) hκ dX0_init_18 rfl ?_
  refine cw_newa (N := 11) hκ dX0_init_20 (by decide) rfl (Nat.le_of_ble_eq_true rfl) (Nat.le_of_ble_eq_true rfl) (Nat.le_of_ble_eq_true rfl) jo_a (fun q2 => ?_)
  refine cw_ca ?_
  refine cw_putF (j := 2) (fs' := [.int 0, .ref q1, .ref q2, .null, .null, .int 0, .null, .null, .null, .int 0, .int 0, .null, .null, .int 0, .int 0]) hκ hnm dX0_init_22 kc_0 (by decide) (sy_mem 124 (by decide +kernel) rfl) rfl rfl rfl rfl (Nat.le_of_ble_eq_true rfl) rfl ?_
  refine cw_aload_n (j := 0) hκ dX0_init_25 rfl rfl ?_
  refine cw_bipush (v := 11) hκ dX0_init_26 rfl ?_
  refine cw_newa (N := 11) hκ dX0_init_28 (by decide) rfl (Nat.le_of_ble_eq_true rfl) (Nat.le_of_ble_eq_true rfl) (Nat.le_of_ble_eq_true rfl) jo_a (fun q3 => ?_)
  refine cw_ca ?_
  refine cw_putF (j := 3) (fs' := [.int 0, .ref q1, .ref q2, .ref q3, .null, .int 0, .null, .null, .null, .int 0, .int 0, .null, .null, .int 0, .int 0]) hκ hnm dX0_init_30 kc_0 (by decide) (sy_mem 127 (by decide +kernel) rfl) rfl rfl rfl rfl (Nat.le_of_ble_eq_true rfl) rfl ?_
  refine cw_aload_n (j := 0) hκ dX0_init_33 rfl rfl ?_
  refine cw_bipush (v := 11) hκ dX0_init_34 rfl ?_
  refine cw_newa (N := 11) hκ dX0_init_36 (by decide) rfl (Nat.le_of_ble_eq_true rfl) (Nat.le_of_ble_eq_true rfl) (Nat.le_of_ble_eq_true rfl) jo_a (fun q4 => ?_)
  refine cw_ca ?_
  refine cw_putF (j := 4) (fs' := [.int 0, .ref q1, .ref q2, .ref q3, .ref q4, .int 0, .null, .null, .null, .int 0, .int 0, .null, .null, .int 0, .int 0]) hκ hnm dX0_init_38 kc_0 (by decide) (sy_mem 129 (by decide +kernel) rfl) rfl rfl rfl rfl (Nat.le_of_ble_eq_true rfl) rfl ?_
  refine cw_aload_n (j := 0) hκ dX0_init_41 rfl rfl ?_
  refine cw_iconst (v := 0) hκ dX0_init_42 rfl ?_
  refine cw_put (j := 5) (fs' := [.int 0, .ref q1, .ref q2, .ref q3, .ref q4, .int 0, .null, .null, .null, .int 0, .int 0, .null, .null, .int 0, .int 0]) hκ dX0_init_43 kc_0 (by decide) (sy_mem 131 (by decide +kernel) rfl) rfl rfl rfl (Nat.le_of_ble_eq_true rfl) rfl ?_
  refine cw_aload_n (j := 0) hκ dX0_init_46 rfl rfl ?_
  refine cw_bipush (v := 16) hκ dX0_init_47 rfl ?_
  refine cw_newa (N := 16) hκ dX0_init_49 (by decide) rfl (Nat.le_of_ble_eq_true rfl) (Nat.le_of_ble_eq_true rfl) (Nat.le_of_ble_eq_true rfl) jo_a (fun q5 => ?_)
  refine cw_ca ?_
  refine cw_putF (j := 6) (fs' := [.int 0, .ref q1, .ref q2, .ref q3, .ref q4, .int 0, .ref q5, .null, .null, .int 0, .int 0, .null, .null, .int 0, .int 0]) hκ hnm dX0_init_51 kc_0 (by decide) (sy_mem 134 (by decide +kernel) rfl) rfl rfl rfl rfl (Nat.le_of_ble_eq_true rfl) rfl ?_
  refine cw_aload_n (j := 0) hκ dX0_init_54 rfl rfl ?_
  refine cw_bipush (v := 16) hκ dX0_init_55 rfl ?_
  refine cw_newa (N := 16) hκ dX0_init_57 (by decide) rfl (Nat.le_of_ble_eq_true rfl) (Nat.le_of_ble_eq_true rfl) (Nat.le_of_ble_eq_true rfl) jo_a (fun q6 => ?_)
  refine cw_ca ?_
  refine cw_putF (j := 7) (fs' := [.int 0, .ref q1, .ref q2, .ref q3, .ref q4, .int 0, .ref q5, .ref q6, .null, .int 0, .int 0, .null, .null, .int 0, .int 0]) hκ hnm dX0_init_59 kc_0 (by decide) (sy_mem 136 (by decide +kernel) rfl) rfl rfl rfl rfl (Nat.le_of_ble_eq_true rfl) rfl ?_
  refine cw_aload_n (j := 0) hκ dX0_init_62 rfl rfl ?_
  refine cw_bipush (v := 24) hκ dX0_init_63 rfl ?_
  refine cw_newa (N := 24) hκ dX0_init_65 (by decide) rfl (Nat.le_of_ble_eq_true rfl) (Nat.le_of_ble_eq_true rfl) (Nat.le_of_ble_eq_true rfl) jo_a (fun q7 => ?_)
  refine cw_ca ?_
  refine cw_putF (j := 8) (fs' := [.int 0, .ref q1, .ref q2, .ref q3, .ref q4, .int 0, .ref q5, .ref q6, .ref q7, .int 0, .int 0, .null, .null, .int 0, .int 0]) hκ hnm dX0_init_67 kc_0 (by decide) (sy_mem 139 (by decide +kernel) rfl) rfl rfl rfl rfl (Nat.le_of_ble_eq_true rfl) rfl ?_
  refine cw_aload_n (j := 0) hκ dX0_init_70 rfl rfl ?_
  refine cw_bipush (v := 40) hκ dX0_init_71 rfl ?_
  refine cw_put (j := 9) (fs' := [.int 0, .ref q1, .ref q2, .ref q3, .ref q4, .int 0, .ref q5, .ref q6, .ref q7, .int 40, .int 0, .null, .null, .int 0, .int 0]) hκ dX0_init_73 kc_0 (by decide) (sy_mem 141 (by decide +kernel) rfl) rfl rfl rfl (Nat.le_of_ble_eq_true rfl) rfl ?_
  refine cw_aload_n (j := 0) hκ dX0_init_76 rfl rfl ?_
  refine cw_iconst (v := 0) hκ dX0_init_77 rfl ?_
  refine cw_put (j := 10) (fs' := [.int 0, .ref q1, .ref q2, .ref q3, .ref q4, .int 0, .ref q5, .ref q6, .ref q7, .int 40, .int 0, .null, .null, .int 0, .int 0]) hκ dX0_init_78 kc_0 (by decide) (sy_mem 144 (by decide +kernel) rfl) rfl rfl rfl (Nat.le_of_ble_eq_true rfl) rfl ?_
  refine cw_aload_n (j := 0) hκ dX0_init_81 rfl rfl ?_
  refine cw_bipush (v := 8) hκ dX0_init_82 rfl ?_
  refine cw_newa (N := 8) hκ dX0_init_84 (by decide) rfl (Nat.le_of_ble_eq_true rfl) (Nat.le_of_ble_eq_true rfl) (Nat.le_of_ble_eq_true rfl) jo_a (fun q8 => ?_)
  refine cw_ca ?_
  refine cw_putF (j := 11) (fs' := [.int 0, .ref q1, .ref q2, .ref q3, .ref q4, .int 0, .ref q5, .ref q6, .ref q7, .int 40, .int 0, .ref q8, .null, .int 0, .int 0]) hκ hnm dX0_init_86 kc_0 (by decide) (sy_mem 147 (by decide +kernel) rfl) rfl rfl rfl rfl (Nat.le_of_ble_eq_true rfl) rfl ?_
  refine cw_aload_n (j := 0) hκ dX0_init_89 rfl rfl ?_
  refine cw_bipush (v := 8) hκ dX0_init_90 rfl ?_
  refine cw_newa (N := 8) hκ dX0_init_92 (by decide) rfl (Nat.le_of_ble_eq_true rfl) (Nat.le_of_ble_eq_true rfl) (Nat.le_of_ble_eq_true rfl) jo_a (fun q9 => ?_)
  refine cw_ca ?_
  refine cw_putF (j := 12) (fs' := [.int 0, .ref q1, .ref q2, .ref q3, .ref q4, .int 0, .ref q5, .ref q6, .ref q7, .int 40, .int 0, .ref q8, .ref q9, .int 0, .int 0]) hκ hnm dX0_init_94 kc_0 (by decide) (sy_mem 149 (by decide +kernel) rfl) rfl rfl rfl rfl (Nat.le_of_ble_eq_true rfl) rfl ?_
  refine cw_aload_n (j := 0) hκ dX0_init_97 rfl rfl ?_
  refine cw_iconst (v := 0) hκ dX0_init_98 rfl ?_
  refine cw_put (j := 13) (fs' := [.int 0, .ref q1, .ref q2, .ref q3, .ref q4, .int 0, .ref q5, .ref q6, .ref q7, .int 40, .int 0, .ref q8, .ref q9, .int 0, .int 0]) hκ dX0_init_99 kc_0 (by decide) (sy_mem 151 (by decide +kernel) rfl) rfl rfl rfl (Nat.le_of_ble_eq_true rfl) rfl ?_
  refine cw_aload_n (j := 0) hκ dX0_init_102 rfl rfl ?_
  refine cw_iconst (v := (-1)) hκ dX0_init_103 rfl ?_
  refine cw_put (j := 14) (fs' := [.int 0, .ref q1, .ref q2, .ref q3, .ref q4, .int 0, .ref q5, .ref q6, .ref q7, .int 40, .int 0, .ref q8, .ref q9, .int 0, .int (-1)]) hκ dX0_init_104 kc_0 (by decide) (sy_mem 154 (by decide +kernel) rfl) rfl rfl rfl (Nat.le_of_ble_eq_true rfl) rfl ?_
  exact hret (fun k => ([q1, q2, q3, q4, q5, q6, q7, q8, q9] : List Nat).getD k 0) _ _ dX0_init_107
def RW_X3 (cI cR : ClassId) (h0 : Nat) (u : Nat → Nat) : va_W := [(h0, .inr (3, [.ref (u 0), .ref (u 1), .ref (u 2), .ref (u 3), .ref (u 4), .ref (u 5), .ref (u 6), .int 0, .int 0, .int 0, .int 0, .int 0, .ref (u 7), .int 0, .int 0, .int 0, .int 0])), ((u 0), .inl (cI, 24, .inl (fun _ => 0))), ((u 1), .inl (cI, 24, .inl (fun _ => 0))), ((u 2), .inl (cI, 24, .inl (fun _ => 0))), ((u 3), .inl (cI, 16, .inl (fun _ => 0))), ((u 4), .inl (cI, 11, .inl (fun _ => 0))), ((u 5), .inl (cI, 11, .inl (fun _ => 0))), ((u 6), .inl (cI, 11, .inl (fun _ => 0))), ((u 7), .inl (cI, 24, .inl (fun _ => 0)))]
set_option maxRecDepth 100000 in
set_option maxHeartbeats 4000000 in
theorem c_X3 : Cc yX3_init cX3_init 1 1 12 8 145 3 [.null, .null, .null, .null, .null, .null, .null, .int 0, .int 0, .int 0, .int 0, .int 0, .null, .int 0, .int 0, .int 0, .int 0] [] (fun _ => True) RW_X3 := by
  refine cc_of (own := RX3) (by decide) rfl rfl (fun h0 => Nat.le_of_ble_eq_true rfl) ?_
  intro κ cI cR h0 hκ hnm hN hret
  refine (?_ : Cw κ 0 0 [(h0, .inr (3, [.null, .null, .null, .null, .null, .null, .null, .int 0, .int 0, .int 0, .int 0, .int 0, .null, .int 0, .int 0, .int 0, .int 0]))] 0 [(0, .ref h0)] [])
  refine cw_aload_n (j := 0) hκ dX3_init_0 rfl rfl ?_
  refine cw_obj hκ dX3_init_1 (sy_mem 193 (by decide +kernel) rfl) jo_i jo_c (by decide) (by decide) ?_
  refine cw_aload_n (j := 0) hκ dX3_init_4 rfl rfl ?_
  refine cw_bipush (v := 24) hκ dX3_init_5 rfl ?_
  refine cw_newa (N := 24) hκ dX3_init_7 (by decide) rfl (Nat.le_of_ble_eq_true rfl) (Nat.le_of_ble_eq_true rfl) (Nat.le_of_ble_eq_true rfl) jo_a (fun q1 => ?_)
  refine cw_ca ?_
  refine cw_putF (j := 0) (fs' := [.ref q1, .null, .null, .null, .null, .null, .null, .int 0, .int 0, .int 0, .int 0, .int 0, .null, .int 0, .int 0, .int 0, .int 0]) hκ hnm dX3_init_9 kc_3 (by decide) (sy_mem 194 (by decide +kernel) rfl) rfl rfl rfl rfl (Nat.le_of_ble_eq_true rfl) rfl ?_
  refine cw_aload_n (j := 0) hκ dX3_init_12 rfl rfl ?_
  refine cw_bipush (v := 24) hκ dX3_init_13 rfl ?_
  refine cw_newa (N := 24) hκ dX3_init_15 (by decide) rfl (Nat.le_of_ble_eq_true rfl) (Nat.le_of_ble_eq_true rfl) (Nat.le_of_ble_eq_true rfl) jo_a (fun q2 => ?_)
  refine cw_ca ?_
  refine cw_putF (j := 1) (fs' := [.ref q1, .ref q2, .null, .null, .null, .null, .null, .int 0, .int 0, .int 0, .int 0, .int 0, .null, .int 0, .int 0, .int 0, .int 0]) hκ hnm dX3_init_17 kc_3 (by decide) (sy_mem 196 (by decide +kernel) rfl) rfl rfl rfl rfl (Nat.le_of_ble_eq_true rfl) rfl ?_
  refine cw_aload_n (j := 0) hκ dX3_init_20 rfl rfl ?_
  refine cw_bipush (v := 24) hκ dX3_init_21 rfl ?_
  refine cw_newa (N := 24) hκ dX3_init_23 (by decide) rfl (Nat.le_of_ble_eq_true rfl) (Nat.le_of_ble_eq_true rfl) (Nat.le_of_ble_eq_true rfl) jo_a (fun q3 => ?_)
  refine cw_ca ?_
  refine cw_putF (j := 2) (fs' := [.ref q1, .ref q2, .ref q3, .null, .null, .null, .null, .int 0, .int 0, .int 0, .int 0, .int 0, .null, .int 0, .int 0, .int 0, .int 0]) hκ hnm dX3_init_25 kc_3 (by decide) (sy_mem 198 (by decide +kernel) rfl) rfl rfl rfl rfl (Nat.le_of_ble_eq_true rfl) rfl ?_
  refine cw_aload_n (j := 0) hκ dX3_init_28 rfl rfl ?_
  refine cw_bipush (v := 16) hκ dX3_init_29 rfl ?_
  refine cw_newa (N := 16) hκ dX3_init_31 (by decide) rfl (Nat.le_of_ble_eq_true rfl) (Nat.le_of_ble_eq_true rfl) (Nat.le_of_ble_eq_true rfl) jo_a (fun q4 => ?_)
  refine cw_ca ?_
  refine cw_putF (j := 3) (fs' := [.ref q1, .ref q2, .ref q3, .ref q4, .null, .null, .null, .int 0, .int 0, .int 0, .int 0, .int 0, .null, .int 0, .int 0, .int 0, .int 0]) hκ hnm dX3_init_33 kc_3 (by decide) (sy_mem 200 (by decide +kernel) rfl) rfl rfl rfl rfl (Nat.le_of_ble_eq_true rfl) rfl ?_
  refine cw_aload_n (j := 0) hκ dX3_init_36 rfl rfl ?_
  refine cw_bipush (v := 11) hκ dX3_init_37 rfl ?_
  refine cw_newa (N := 11) hκ dX3_init_39 (by decide) rfl (Nat.le_of_ble_eq_true rfl) (Nat.le_of_ble_eq_true rfl) (Nat.le_of_ble_eq_true rfl) jo_a (fun q5 => ?_)
  refine cw_ca ?_
  refine cw_putF (j := 4) (fs' := [.ref q1, .ref q2, .ref q3, .ref q4, .ref q5, .null, .null, .int 0, .int 0, .int 0, .int 0, .int 0, .null, .int 0, .int 0, .int 0, .int 0]) hκ hnm dX3_init_41 kc_3 (by decide) (sy_mem 203 (by decide +kernel) rfl) rfl rfl rfl rfl (Nat.le_of_ble_eq_true rfl) rfl ?_
  refine cw_aload_n (j := 0) hκ dX3_init_44 rfl rfl ?_
  refine cw_bipush (v := 11) hκ dX3_init_45 rfl ?_
  refine cw_newa (N := 11) hκ dX3_init_47 (by decide) rfl (Nat.le_of_ble_eq_true rfl) (Nat.le_of_ble_eq_true rfl) (Nat.le_of_ble_eq_true rfl) jo_a (fun q6 => ?_)
  refine cw_ca ?_
  refine cw_putF (j := 5) (fs' := [.ref q1, .ref q2, .ref q3, .ref q4, .ref q5, .ref q6, .null, .int 0, .int 0, .int 0, .int 0, .int 0, .null, .int 0, .int 0, .int 0, .int 0]) hκ hnm dX3_init_49 kc_3 (by decide) (sy_mem 205 (by decide +kernel) rfl) rfl rfl rfl rfl (Nat.le_of_ble_eq_true rfl) rfl ?_
  refine cw_aload_n (j := 0) hκ dX3_init_52 rfl rfl ?_
  refine cw_bipush (v := 11) hκ dX3_init_53 rfl ?_
  refine cw_newa (N := 11) hκ dX3_init_55 (by decide) rfl (Nat.le_of_ble_eq_true rfl) (Nat.le_of_ble_eq_true rfl) (Nat.le_of_ble_eq_true rfl) jo_a (fun q7 => ?_)
  refine cw_ca ?_
  refine cw_putF (j := 6) (fs' := [.ref q1, .ref q2, .ref q3, .ref q4, .ref q5, .ref q6, .ref q7, .int 0, .int 0, .int 0, .int 0, .int 0, .null, .int 0, .int 0, .int 0, .int 0]) hκ hnm dX3_init_57 kc_3 (by decide) (sy_mem 207 (by decide +kernel) rfl) rfl rfl rfl rfl (Nat.le_of_ble_eq_true rfl) rfl ?_
  refine cw_aload_n (j := 0) hκ dX3_init_60 rfl rfl ?_
  refine cw_bipush (v := 24) hκ dX3_init_61 rfl ?_
  refine cw_newa (N := 24) hκ dX3_init_63 (by decide) rfl (Nat.le_of_ble_eq_true rfl) (Nat.le_of_ble_eq_true rfl) (Nat.le_of_ble_eq_true rfl) jo_a (fun q8 => ?_)
  refine cw_ca ?_
  refine cw_putF (j := 12) (fs' := [.ref q1, .ref q2, .ref q3, .ref q4, .ref q5, .ref q6, .ref q7, .int 0, .int 0, .int 0, .int 0, .int 0, .ref q8, .int 0, .int 0, .int 0, .int 0]) hκ hnm dX3_init_65 kc_3 (by decide) (sy_mem 219 (by decide +kernel) rfl) rfl rfl rfl rfl (Nat.le_of_ble_eq_true rfl) rfl ?_
  exact hret (fun k => ([q1, q2, q3, q4, q5, q6, q7, q8] : List Nat).getD k 0) _ _ dX3_init_68
def RW_X2 (cI cR : ClassId) (h0 : Nat) (u : Nat → Nat) : va_W := [(h0, .inr (2, [.ref (u 0), .ref (u 1), .int 0])), ((u 0), .inl (cI, 8, .inl (fun _ => 0))), ((u 1), .inl (cI, 8, .inl (fun _ => 0)))]
set_option maxRecDepth 100000 in
set_option maxHeartbeats 4000000 in
theorem c_X2 : Cc yX2_init cX2_init 1 1 12 2 16 2 [.null, .null, .int 0] [] (fun _ => True) RW_X2 := by
  refine cc_of (own := RX2) (by decide) rfl rfl (fun h0 => Nat.le_of_ble_eq_true rfl) ?_
  intro κ cI cR h0 hκ hnm hN hret
  refine (?_ : Cw κ 0 0 [(h0, .inr (2, [.null, .null, .int 0]))] 0 [(0, .ref h0)] [])
  refine cw_aload_n (j := 0) hκ dX2_init_0 rfl rfl ?_
  refine cw_obj hκ dX2_init_1 (sy_mem 264 (by decide +kernel) rfl) jo_i jo_c (by decide) (by decide) ?_
  refine cw_aload_n (j := 0) hκ dX2_init_4 rfl rfl ?_
  refine cw_bipush (v := 8) hκ dX2_init_5 rfl ?_
  refine cw_newa (N := 8) hκ dX2_init_7 (by decide) rfl (Nat.le_of_ble_eq_true rfl) (Nat.le_of_ble_eq_true rfl) (Nat.le_of_ble_eq_true rfl) jo_a (fun q1 => ?_)
  refine cw_ca ?_
  refine cw_putF (j := 0) (fs' := [.ref q1, .null, .int 0]) hκ hnm dX2_init_9 kc_2 (by decide) (sy_mem 265 (by decide +kernel) rfl) rfl rfl rfl rfl (Nat.le_of_ble_eq_true rfl) rfl ?_
  refine cw_aload_n (j := 0) hκ dX2_init_12 rfl rfl ?_
  refine cw_bipush (v := 8) hκ dX2_init_13 rfl ?_
  refine cw_newa (N := 8) hκ dX2_init_15 (by decide) rfl (Nat.le_of_ble_eq_true rfl) (Nat.le_of_ble_eq_true rfl) (Nat.le_of_ble_eq_true rfl) jo_a (fun q2 => ?_)
  refine cw_ca ?_
  refine cw_putF (j := 1) (fs' := [.ref q1, .ref q2, .int 0]) hκ hnm dX2_init_17 kc_2 (by decide) (sy_mem 266 (by decide +kernel) rfl) rfl rfl rfl rfl (Nat.le_of_ble_eq_true rfl) rfl ?_
  refine cw_aload_n (j := 0) hκ dX2_init_20 rfl rfl ?_
  refine cw_iconst (v := 0) hκ dX2_init_21 rfl ?_
  refine cw_put (j := 2) (fs' := [.ref q1, .ref q2, .int 0]) hκ dX2_init_22 kc_2 (by decide) (sy_mem 267 (by decide +kernel) rfl) rfl rfl rfl (Nat.le_of_ble_eq_true rfl) rfl ?_
  exact hret (fun k => ([q1, q2] : List Nat).getD k 0) _ _ dX2_init_25
def RW_X1 (cI cR : ClassId) (h0 : Nat) (u : Nat → Nat) : va_W := [(h0, .inr (1, [.int 0, .int 0, .int 0, .int 0]))]
set_option maxRecDepth 100000 in
set_option maxHeartbeats 4000000 in
theorem c_X1 : Cc yX1_init cX1_init 1 1 12 0 0 1 [.int 0, .int 0, .int 0, .int 0] [] (fun _ => True) RW_X1 := by
  refine cc_of (own := RX1) (by decide) rfl rfl (fun h0 => Nat.le_of_ble_eq_true rfl) ?_
  intro κ cI cR h0 hκ hnm hN hret
  refine (?_ : Cw κ 0 0 [(h0, .inr (1, [.int 0, .int 0, .int 0, .int 0]))] 0 [(0, .ref h0)] [])
  refine cw_aload_n (j := 0) hκ dX1_init_0 rfl rfl ?_
  refine cw_obj hκ dX1_init_1 (sy_mem 281 (by decide +kernel) rfl) jo_i jo_c (by decide) (by decide) ?_
  refine cw_aload_n (j := 0) hκ dX1_init_4 rfl rfl ?_
  refine cw_iconst (v := 0) hκ dX1_init_5 rfl ?_
  refine cw_put (j := 0) (fs' := [.int 0, .int 0, .int 0, .int 0]) hκ dX1_init_6 kc_1 (by decide) (sy_mem 282 (by decide +kernel) rfl) rfl rfl rfl (Nat.le_of_ble_eq_true rfl) rfl ?_
  exact hret (fun k => ([] : List Nat).getD k 0) _ _ dX1_init_9
def RW_X4 (cI cR : ClassId) (h0 : Nat) (u : Nat → Nat) : va_W := [(h0, .inr (4, [.int 1, .int 0, .int 0, .ref (u 0)])), ((u 0), .inl (cI, 60, .inl (fun _ => 0)))]
set_option maxRecDepth 100000 in
set_option maxHeartbeats 4000000 in
theorem c_X4 : Cc yX4_init cX4_init 1 1 12 1 60 4 [.int 0, .int 0, .int 0, .null] [] (fun _ => True) RW_X4 := by
  refine cc_of (own := RX4) (by decide) rfl rfl (fun h0 => Nat.le_of_ble_eq_true rfl) ?_
  intro κ cI cR h0 hκ hnm hN hret
  refine (?_ : Cw κ 0 0 [(h0, .inr (4, [.int 0, .int 0, .int 0, .null]))] 0 [(0, .ref h0)] [])
  refine cw_aload_n (j := 0) hκ dX4_init_0 rfl rfl ?_
  refine cw_obj hκ dX4_init_1 (sy_mem 305 (by decide +kernel) rfl) jo_i jo_c (by decide) (by decide) ?_
  refine cw_aload_n (j := 0) hκ dX4_init_4 rfl rfl ?_
  refine cw_iconst (v := 1) hκ dX4_init_5 rfl ?_
  refine cw_put (j := 0) (fs' := [.int 1, .int 0, .int 0, .null]) hκ dX4_init_6 kc_4 (by decide) (sy_mem 306 (by decide +kernel) rfl) rfl rfl rfl (Nat.le_of_ble_eq_true rfl) rfl ?_
  refine cw_aload_n (j := 0) hκ dX4_init_9 rfl rfl ?_
  refine cw_iconst (v := 0) hκ dX4_init_10 rfl ?_
  refine cw_put (j := 1) (fs' := [.int 1, .int 0, .int 0, .null]) hκ dX4_init_11 kc_4 (by decide) (sy_mem 308 (by decide +kernel) rfl) rfl rfl rfl (Nat.le_of_ble_eq_true rfl) rfl ?_
  refine cw_aload_n (j := 0) hκ dX4_init_14 rfl rfl ?_
  refine cw_iconst (v := 0) hκ dX4_init_15 rfl ?_
  refine cw_put (j := 2) (fs' := [.int 1, .int 0, .int 0, .null]) hκ dX4_init_16 kc_4 (by decide) (sy_mem 310 (by decide +kernel) rfl) rfl rfl rfl (Nat.le_of_ble_eq_true rfl) rfl ?_
  refine cw_aload_n (j := 0) hκ dX4_init_19 rfl rfl ?_
  refine cw_bipush (v := 60) hκ dX4_init_20 rfl ?_
  refine cw_newa (N := 60) hκ dX4_init_22 (by decide) rfl (Nat.le_of_ble_eq_true rfl) (Nat.le_of_ble_eq_true rfl) (Nat.le_of_ble_eq_true rfl) jo_a (fun q1 => ?_)
  refine cw_ca ?_
  refine cw_putF (j := 3) (fs' := [.int 1, .int 0, .int 0, .ref q1]) hκ hnm dX4_init_24 kc_4 (by decide) (sy_mem 312 (by decide +kernel) rfl) rfl rfl rfl rfl (Nat.le_of_ble_eq_true rfl) rfl ?_
  exact hret (fun k => ([q1] : List Nat).getD k 0) _ _ dX4_init_27
def RW_X7 (cI cR : ClassId) (h0 : Nat) (u : Nat → Nat) : va_W := [(h0, .inr (7, [.ref (u 0), .ref (u 1), .ref (u 2), .ref (u 3), .int 0, .ref (u 4), .ref (u 5), .int 0, .ref (u 6), .int 0, .ref (u 7), .int 40, .int 0, .ref (u 8), .int 0, .int (-1), .int 0, .int 0, .int 0, .int 0, .ref (u 9), .ref (u 10), .ref (u 11), .ref (u 12), .ref (u 13), .ref (u 14), .ref (u 15), .ref (u 16), .int 0, .ref (u 17), .ref (u 18), .int 0])), ((u 0), .inl (cI, 4, .inl (upd (upd (upd (upd (fun _ => 0) 0 (-1)) 1 (-1)) 2 (-1)) 3 (-1)))), ((u 1), .inl (cI, 4, .inl (fun _ => 0))), ((u 2), .inl (cI, 240, .inl (fun _ => 0))), ((u 3), .inl (cI, 60, .inl (fun _ => 0))), ((u 4), .inl (cI, 96, .inl (fun _ => 0))), ((u 5), .inl (cI, 2, .inl (fun _ => 0))), ((u 6), .inl (cI, 22, .inl (fun _ => 0))), ((u 7), .inl (cI, 32, .inl (fun _ => 0))), ((u 8), .inl (cI, 16, .inl (fun _ => 0))), ((u 9), .inl (cI, 24, .inl (fun _ => 0))), ((u 10), .inl (cI, 24, .inl (fun _ => 0))), ((u 11), .inl (cI, 24, .inl (fun _ => 0))), ((u 12), .inl (cI, 16, .inl (fun _ => 0))), ((u 13), .inl (cI, 11, .inl (fun _ => 0))), ((u 14), .inl (cI, 11, .inl (fun _ => 0))), ((u 15), .inl (cI, 11, .inl (fun _ => 0))), ((u 16), .inl (cI, 11, .inl (fun _ => 0))), ((u 17), .inl (cI, 16, .inl (fun _ => 0))), ((u 18), .inl (cI, 64, .inl (fun _ => 0)))]
set_option maxRecDepth 100000 in
set_option maxHeartbeats 4000000 in
theorem c_X7 : Cc yX7_init cX7_init 2 1 12 19 688 7 [.null, .null, .null, .null, .int 0, .null, .null, .int 0, .null, .int 0, .null, .int 0, .int 0, .null, .int 0, .int 0, .int 0, .int 0, .int 0, .int 0, .null, .null, .null, .null, .null, .null, .null, .null, .int 0, .null, .null, .int 0] [] (fun _ => True) RW_X7 := by
  refine cc_of (own := RX7) (by decide) rfl rfl (fun h0 => Nat.le_of_ble_eq_true rfl) ?_
  intro κ cI cR h0 hκ hnm hN hret
  refine (?_ : Cw κ 0 0 [(h0, .inr (7, [.null, .null, .null, .null, .int 0, .null, .null, .int 0, .null, .int 0, .null, .int 0, .int 0, .null, .int 0, .int 0, .int 0, .int 0, .int 0, .int 0, .null, .null, .null, .null, .null, .null, .null, .null, .int 0, .null, .null, .int 0]))] 0 [(0, .ref h0)] [])
  refine cw_aload_n (j := 0) hκ dX7_init_0 rfl rfl ?_
  refine cw_obj hκ dX7_init_1 (sy_mem 796 (by decide +kernel) rfl) jo_i jo_c (by decide) (by decide) ?_
  refine cw_aload_n (j := 0) hκ dX7_init_4 rfl rfl ?_
  refine cw_iconst (v := 4) hκ dX7_init_5 rfl ?_
  refine cw_newa (N := 4) hκ dX7_init_6 (by decide) rfl (Nat.le_of_ble_eq_true rfl) (Nat.le_of_ble_eq_true rfl) (Nat.le_of_ble_eq_true rfl) jo_a (fun q1 => ?_)
  refine cw_ca ?_
  refine cw_putF (j := 0) (fs' := [.ref q1, .null, .null, .null, .int 0, .null, .null, .int 0, .null, .int 0, .null, .int 0, .int 0, .null, .int 0, .int 0, .int 0, .int 0, .int 0, .int 0, .null, .null, .null, .null, .null, .null, .null, .null, .int 0, .null, .null, .int 0]) hκ hnm dX7_init_8 kc_7 (by decide) (sy_mem 797 (by decide +kernel) rfl) rfl rfl rfl rfl (Nat.le_of_ble_eq_true rfl) rfl ?_
  refine cw_aload_n (j := 0) hκ dX7_init_11 rfl rfl ?_
  refine cw_iconst (v := 4) hκ dX7_init_12 rfl ?_
  refine cw_newa (N := 4) hκ dX7_init_13 (by decide) rfl (Nat.le_of_ble_eq_true rfl) (Nat.le_of_ble_eq_true rfl) (Nat.le_of_ble_eq_true rfl) jo_a (fun q2 => ?_)
  refine cw_ca ?_
  refine cw_putF (j := 1) (fs' := [.ref q1, .ref q2, .null, .null, .int 0, .null, .null, .int 0, .null, .int 0, .null, .int 0, .int 0, .null, .int 0, .int 0, .int 0, .int 0, .int 0, .int 0, .null, .null, .null, .null, .null, .null, .null, .null, .int 0, .null, .null, .int 0]) hκ hnm dX7_init_15 kc_7 (by decide) (sy_mem 798 (by decide +kernel) rfl) rfl rfl rfl rfl (Nat.le_of_ble_eq_true rfl) rfl ?_
  refine cw_aload_n (j := 0) hκ dX7_init_18 rfl rfl ?_
  refine cw_sipush (v := 240) hκ dX7_init_19 rfl ?_
  refine cw_newa (N := 240) hκ dX7_init_22 (by decide) rfl (Nat.le_of_ble_eq_true rfl) (Nat.le_of_ble_eq_true rfl) (Nat.le_of_ble_eq_true rfl) jo_a (fun q3 => ?_)
  refine cw_ca ?_
  refine cw_putF (j := 2) (fs' := [.ref q1, .ref q2, .ref q3, .null, .int 0, .null, .null, .int 0, .null, .int 0, .null, .int 0, .int 0, .null, .int 0, .int 0, .int 0, .int 0, .int 0, .int 0, .null, .null, .null, .null, .null, .null, .null, .null, .int 0, .null, .null, .int 0]) hκ hnm dX7_init_24 kc_7 (by decide) (sy_mem 799 (by decide +kernel) rfl) rfl rfl rfl rfl (Nat.le_of_ble_eq_true rfl) rfl ?_
  refine cw_aload_n (j := 0) hκ dX7_init_27 rfl rfl ?_
  refine cw_bipush (v := 60) hκ dX7_init_28 rfl ?_
  refine cw_newa (N := 60) hκ dX7_init_30 (by decide) rfl (Nat.le_of_ble_eq_true rfl) (Nat.le_of_ble_eq_true rfl) (Nat.le_of_ble_eq_true rfl) jo_a (fun q4 => ?_)
  refine cw_ca ?_
  refine cw_putF (j := 3) (fs' := [.ref q1, .ref q2, .ref q3, .ref q4, .int 0, .null, .null, .int 0, .null, .int 0, .null, .int 0, .int 0, .null, .int 0, .int 0, .int 0, .int 0, .int 0, .int 0, .null, .null, .null, .null, .null, .null, .null, .null, .int 0, .null, .null, .int 0]) hκ hnm dX7_init_32 kc_7 (by decide) (sy_mem 800 (by decide +kernel) rfl) rfl rfl rfl rfl (Nat.le_of_ble_eq_true rfl) rfl ?_
  refine cw_aload_n (j := 0) hκ dX7_init_35 rfl rfl ?_
  refine cw_bipush (v := 96) hκ dX7_init_36 rfl ?_
  refine cw_newa (N := 96) hκ dX7_init_38 (by decide) rfl (Nat.le_of_ble_eq_true rfl) (Nat.le_of_ble_eq_true rfl) (Nat.le_of_ble_eq_true rfl) jo_a (fun q5 => ?_)
  refine cw_ca ?_
  refine cw_putF (j := 5) (fs' := [.ref q1, .ref q2, .ref q3, .ref q4, .int 0, .ref q5, .null, .int 0, .null, .int 0, .null, .int 0, .int 0, .null, .int 0, .int 0, .int 0, .int 0, .int 0, .int 0, .null, .null, .null, .null, .null, .null, .null, .null, .int 0, .null, .null, .int 0]) hκ hnm dX7_init_40 kc_7 (by decide) (sy_mem 802 (by decide +kernel) rfl) rfl rfl rfl rfl (Nat.le_of_ble_eq_true rfl) rfl ?_
  refine cw_aload_n (j := 0) hκ dX7_init_43 rfl rfl ?_
  refine cw_iconst (v := 2) hκ dX7_init_44 rfl ?_
  refine cw_newa (N := 2) hκ dX7_init_45 (by decide) rfl (Nat.le_of_ble_eq_true rfl) (Nat.le_of_ble_eq_true rfl) (Nat.le_of_ble_eq_true rfl) jo_a (fun q6 => ?_)
  refine cw_ca ?_
  refine cw_putF (j := 6) (fs' := [.ref q1, .ref q2, .ref q3, .ref q4, .int 0, .ref q5, .ref q6, .int 0, .null, .int 0, .null, .int 0, .int 0, .null, .int 0, .int 0, .int 0, .int 0, .int 0, .int 0, .null, .null, .null, .null, .null, .null, .null, .null, .int 0, .null, .null, .int 0]) hκ hnm dX7_init_47 kc_7 (by decide) (sy_mem 803 (by decide +kernel) rfl) rfl rfl rfl rfl (Nat.le_of_ble_eq_true rfl) rfl ?_
  refine cw_aload_n (j := 0) hκ dX7_init_50 rfl rfl ?_
  refine cw_bipush (v := 22) hκ dX7_init_51 rfl ?_
  refine cw_newa (N := 22) hκ dX7_init_53 (by decide) rfl (Nat.le_of_ble_eq_true rfl) (Nat.le_of_ble_eq_true rfl) (Nat.le_of_ble_eq_true rfl) jo_a (fun q7 => ?_)
  refine cw_ca ?_
  refine cw_putF (j := 8) (fs' := [.ref q1, .ref q2, .ref q3, .ref q4, .int 0, .ref q5, .ref q6, .int 0, .ref q7, .int 0, .null, .int 0, .int 0, .null, .int 0, .int 0, .int 0, .int 0, .int 0, .int 0, .null, .null, .null, .null, .null, .null, .null, .null, .int 0, .null, .null, .int 0]) hκ hnm dX7_init_55 kc_7 (by decide) (sy_mem 805 (by decide +kernel) rfl) rfl rfl rfl rfl (Nat.le_of_ble_eq_true rfl) rfl ?_
  refine cw_aload_n (j := 0) hκ dX7_init_58 rfl rfl ?_
  refine cw_bipush (v := 32) hκ dX7_init_59 rfl ?_
  refine cw_newa (N := 32) hκ dX7_init_61 (by decide) rfl (Nat.le_of_ble_eq_true rfl) (Nat.le_of_ble_eq_true rfl) (Nat.le_of_ble_eq_true rfl) jo_a (fun q8 => ?_)
  refine cw_ca ?_
  refine cw_putF (j := 10) (fs' := [.ref q1, .ref q2, .ref q3, .ref q4, .int 0, .ref q5, .ref q6, .int 0, .ref q7, .int 0, .ref q8, .int 0, .int 0, .null, .int 0, .int 0, .int 0, .int 0, .int 0, .int 0, .null, .null, .null, .null, .null, .null, .null, .null, .int 0, .null, .null, .int 0]) hκ hnm dX7_init_63 kc_7 (by decide) (sy_mem 807 (by decide +kernel) rfl) rfl rfl rfl rfl (Nat.le_of_ble_eq_true rfl) rfl ?_
  refine cw_aload_n (j := 0) hκ dX7_init_66 rfl rfl ?_
  refine cw_bipush (v := 16) hκ dX7_init_67 rfl ?_
  refine cw_newa (N := 16) hκ dX7_init_69 (by decide) rfl (Nat.le_of_ble_eq_true rfl) (Nat.le_of_ble_eq_true rfl) (Nat.le_of_ble_eq_true rfl) jo_a (fun q9 => ?_)
  refine cw_ca ?_
  refine cw_putF (j := 13) (fs' := [.ref q1, .ref q2, .ref q3, .ref q4, .int 0, .ref q5, .ref q6, .int 0, .ref q7, .int 0, .ref q8, .int 0, .int 0, .ref q9, .int 0, .int 0, .int 0, .int 0, .int 0, .int 0, .null, .null, .null, .null, .null, .null, .null, .null, .int 0, .null, .null, .int 0]) hκ hnm dX7_init_71 kc_7 (by decide) (sy_mem 810 (by decide +kernel) rfl) rfl rfl rfl rfl (Nat.le_of_ble_eq_true rfl) rfl ?_
  refine cw_aload_n (j := 0) hκ dX7_init_74 rfl rfl ?_
  refine cw_bipush (v := 24) hκ dX7_init_75 rfl ?_
  refine cw_newa (N := 24) hκ dX7_init_77 (by decide) rfl (Nat.le_of_ble_eq_true rfl) (Nat.le_of_ble_eq_true rfl) (Nat.le_of_ble_eq_true rfl) jo_a (fun q10 => ?_)
  refine cw_ca ?_
  refine cw_putF (j := 20) (fs' := [.ref q1, .ref q2, .ref q3, .ref q4, .int 0, .ref q5, .ref q6, .int 0, .ref q7, .int 0, .ref q8, .int 0, .int 0, .ref q9, .int 0, .int 0, .int 0, .int 0, .int 0, .int 0, .ref q10, .null, .null, .null, .null, .null, .null, .null, .int 0, .null, .null, .int 0]) hκ hnm dX7_init_79 kc_7 (by decide) (sy_mem 817 (by decide +kernel) rfl) rfl rfl rfl rfl (Nat.le_of_ble_eq_true rfl) rfl ?_
  refine cw_aload_n (j := 0) hκ dX7_init_82 rfl rfl ?_
  refine cw_bipush (v := 24) hκ dX7_init_83 rfl ?_
  refine cw_newa (N := 24) hκ dX7_init_85 (by decide) rfl (Nat.le_of_ble_eq_true rfl) (Nat.le_of_ble_eq_true rfl) (Nat.le_of_ble_eq_true rfl) jo_a (fun q11 => ?_)
  refine cw_ca ?_
  refine cw_putF (j := 21) (fs' := [.ref q1, .ref q2, .ref q3, .ref q4, .int 0, .ref q5, .ref q6, .int 0, .ref q7, .int 0, .ref q8, .int 0, .int 0, .ref q9, .int 0, .int 0, .int 0, .int 0, .int 0, .int 0, .ref q10, .ref q11, .null, .null, .null, .null, .null, .null, .int 0, .null, .null, .int 0]) hκ hnm dX7_init_87 kc_7 (by decide) (sy_mem 818 (by decide +kernel) rfl) rfl rfl rfl rfl (Nat.le_of_ble_eq_true rfl) rfl ?_
  refine cw_aload_n (j := 0) hκ dX7_init_90 rfl rfl ?_
  refine cw_bipush (v := 24) hκ dX7_init_91 rfl ?_
  refine cw_newa (N := 24) hκ dX7_init_93 (by decide) rfl (Nat.le_of_ble_eq_true rfl) (Nat.le_of_ble_eq_true rfl) (Nat.le_of_ble_eq_true rfl) jo_a (fun q12 => ?_)
  refine cw_ca ?_
  refine cw_putF (j := 22) (fs' := [.ref q1, .ref q2, .ref q3, .ref q4, .int 0, .ref q5, .ref q6, .int 0, .ref q7, .int 0, .ref q8, .int 0, .int 0, .ref q9, .int 0, .int 0, .int 0, .int 0, .int 0, .int 0, .ref q10, .ref q11, .ref q12, .null, .null, .null, .null, .null, .int 0, .null, .null, .int 0]) hκ hnm dX7_init_95 kc_7 (by decide) (sy_mem 819 (by decide +kernel) rfl) rfl rfl rfl rfl (Nat.le_of_ble_eq_true rfl) rfl ?_
  refine cw_aload_n (j := 0) hκ dX7_init_98 rfl rfl ?_
  refine cw_bipush (v := 16) hκ dX7_init_99 rfl ?_
  refine cw_newa (N := 16) hκ dX7_init_101 (by decide) rfl (Nat.le_of_ble_eq_true rfl) (Nat.le_of_ble_eq_true rfl) (Nat.le_of_ble_eq_true rfl) jo_a (fun q13 => ?_)
  refine cw_ca ?_
  refine cw_putF (j := 23) (fs' := [.ref q1, .ref q2, .ref q3, .ref q4, .int 0, .ref q5, .ref q6, .int 0, .ref q7, .int 0, .ref q8, .int 0, .int 0, .ref q9, .int 0, .int 0, .int 0, .int 0, .int 0, .int 0, .ref q10, .ref q11, .ref q12, .ref q13, .null, .null, .null, .null, .int 0, .null, .null, .int 0]) hκ hnm dX7_init_103 kc_7 (by decide) (sy_mem 820 (by decide +kernel) rfl) rfl rfl rfl rfl (Nat.le_of_ble_eq_true rfl) rfl ?_
  refine cw_aload_n (j := 0) hκ dX7_init_106 rfl rfl ?_
  refine cw_bipush (v := 11) hκ dX7_init_107 rfl ?_
  refine cw_newa (N := 11) hκ dX7_init_109 (by decide) rfl (Nat.le_of_ble_eq_true rfl) (Nat.le_of_ble_eq_true rfl) (Nat.le_of_ble_eq_true rfl) jo_a (fun q14 => ?_)
  refine cw_ca ?_
  refine cw_putF (j := 24) (fs' := [.ref q1, .ref q2, .ref q3, .ref q4, .int 0, .ref q5, .ref q6, .int 0, .ref q7, .int 0, .ref q8, .int 0, .int 0, .ref q9, .int 0, .int 0, .int 0, .int 0, .int 0, .int 0, .ref q10, .ref q11, .ref q12, .ref q13, .ref q14, .null, .null, .null, .int 0, .null, .null, .int 0]) hκ hnm dX7_init_111 kc_7 (by decide) (sy_mem 821 (by decide +kernel) rfl) rfl rfl rfl rfl (Nat.le_of_ble_eq_true rfl) rfl ?_
  refine cw_aload_n (j := 0) hκ dX7_init_114 rfl rfl ?_
  refine cw_bipush (v := 11) hκ dX7_init_115 rfl ?_
  refine cw_newa (N := 11) hκ dX7_init_117 (by decide) rfl (Nat.le_of_ble_eq_true rfl) (Nat.le_of_ble_eq_true rfl) (Nat.le_of_ble_eq_true rfl) jo_a (fun q15 => ?_)
  refine cw_ca ?_
  refine cw_putF (j := 25) (fs' := [.ref q1, .ref q2, .ref q3, .ref q4, .int 0, .ref q5, .ref q6, .int 0, .ref q7, .int 0, .ref q8, .int 0, .int 0, .ref q9, .int 0, .int 0, .int 0, .int 0, .int 0, .int 0, .ref q10, .ref q11, .ref q12, .ref q13, .ref q14, .ref q15, .null, .null, .int 0, .null, .null, .int 0]) hκ hnm dX7_init_119 kc_7 (by decide) (sy_mem 822 (by decide +kernel) rfl) rfl rfl rfl rfl (Nat.le_of_ble_eq_true rfl) rfl ?_
  refine cw_aload_n (j := 0) hκ dX7_init_122 rfl rfl ?_
  refine cw_bipush (v := 11) hκ dX7_init_123 rfl ?_
  refine cw_newa (N := 11) hκ dX7_init_125 (by decide) rfl (Nat.le_of_ble_eq_true rfl) (Nat.le_of_ble_eq_true rfl) (Nat.le_of_ble_eq_true rfl) jo_a (fun q16 => ?_)
  refine cw_ca ?_
  refine cw_putF (j := 26) (fs' := [.ref q1, .ref q2, .ref q3, .ref q4, .int 0, .ref q5, .ref q6, .int 0, .ref q7, .int 0, .ref q8, .int 0, .int 0, .ref q9, .int 0, .int 0, .int 0, .int 0, .int 0, .int 0, .ref q10, .ref q11, .ref q12, .ref q13, .ref q14, .ref q15, .ref q16, .null, .int 0, .null, .null, .int 0]) hκ hnm dX7_init_127 kc_7 (by decide) (sy_mem 823 (by decide +kernel) rfl) rfl rfl rfl rfl (Nat.le_of_ble_eq_true rfl) rfl ?_
  refine cw_aload_n (j := 0) hκ dX7_init_130 rfl rfl ?_
  refine cw_bipush (v := 11) hκ dX7_init_131 rfl ?_
  refine cw_newa (N := 11) hκ dX7_init_133 (by decide) rfl (Nat.le_of_ble_eq_true rfl) (Nat.le_of_ble_eq_true rfl) (Nat.le_of_ble_eq_true rfl) jo_a (fun q17 => ?_)
  refine cw_ca ?_
  refine cw_putF (j := 27) (fs' := [.ref q1, .ref q2, .ref q3, .ref q4, .int 0, .ref q5, .ref q6, .int 0, .ref q7, .int 0, .ref q8, .int 0, .int 0, .ref q9, .int 0, .int 0, .int 0, .int 0, .int 0, .int 0, .ref q10, .ref q11, .ref q12, .ref q13, .ref q14, .ref q15, .ref q16, .ref q17, .int 0, .null, .null, .int 0]) hκ hnm dX7_init_135 kc_7 (by decide) (sy_mem 824 (by decide +kernel) rfl) rfl rfl rfl rfl (Nat.le_of_ble_eq_true rfl) rfl ?_
  refine cw_aload_n (j := 0) hκ dX7_init_138 rfl rfl ?_
  refine cw_bipush (v := 16) hκ dX7_init_139 rfl ?_
  refine cw_newa (N := 16) hκ dX7_init_141 (by decide) rfl (Nat.le_of_ble_eq_true rfl) (Nat.le_of_ble_eq_true rfl) (Nat.le_of_ble_eq_true rfl) jo_a (fun q18 => ?_)
  refine cw_ca ?_
  refine cw_putF (j := 29) (fs' := [.ref q1, .ref q2, .ref q3, .ref q4, .int 0, .ref q5, .ref q6, .int 0, .ref q7, .int 0, .ref q8, .int 0, .int 0, .ref q9, .int 0, .int 0, .int 0, .int 0, .int 0, .int 0, .ref q10, .ref q11, .ref q12, .ref q13, .ref q14, .ref q15, .ref q16, .ref q17, .int 0, .ref q18, .null, .int 0]) hκ hnm dX7_init_143 kc_7 (by decide) (sy_mem 826 (by decide +kernel) rfl) rfl rfl rfl rfl (Nat.le_of_ble_eq_true rfl) rfl ?_
  refine cw_aload_n (j := 0) hκ dX7_init_146 rfl rfl ?_
  refine cw_bipush (v := 64) hκ dX7_init_147 rfl ?_
  refine cw_newa (N := 64) hκ dX7_init_149 (by decide) rfl (Nat.le_of_ble_eq_true rfl) (Nat.le_of_ble_eq_true rfl) (Nat.le_of_ble_eq_true rfl) jo_a (fun q19 => ?_)
  refine cw_ca ?_
  refine cw_putF (j := 30) (fs' := [.ref q1, .ref q2, .ref q3, .ref q4, .int 0, .ref q5, .ref q6, .int 0, .ref q7, .int 0, .ref q8, .int 0, .int 0, .ref q9, .int 0, .int 0, .int 0, .int 0, .int 0, .int 0, .ref q10, .ref q11, .ref q12, .ref q13, .ref q14, .ref q15, .ref q16, .ref q17, .int 0, .ref q18, .ref q19, .int 0]) hκ hnm dX7_init_151 kc_7 (by decide) (sy_mem 827 (by decide +kernel) rfl) rfl rfl rfl rfl (Nat.le_of_ble_eq_true rfl) rfl ?_
  refine cw_w (ws' := [(h0, .inr (7, [.ref q1, .ref q2, .ref q3, .ref q4, .int 0, .ref q5, .ref q6, .int 0, .ref q7, .int 0, .ref q8, .int 0, .int 0, .ref q9, .int 0, .int 0, .int 0, .int 0, .int 0, .int 0, .ref q10, .ref q11, .ref q12, .ref q13, .ref q14, .ref q15, .ref q16, .ref q17, .int 0, .ref q18, .ref q19, .int 0])), (q1, .inl (cI, 4, .inl (fun _ => 0))), (q2, .inl (cI, 4, .inl (fun _ => 0))), (q3, .inl (cI, 240, .inl (fun _ => 0))), (q4, .inl (cI, 60, .inl (fun _ => 0))), (q5, .inl (cI, 96, .inl (fun _ => 0))), (q6, .inl (cI, 2, .inl (fun _ => 0))), (q7, .inl (cI, 22, .inl (fun _ => 0))), (q8, .inl (cI, 32, .inl (fun _ => 0))), (q9, .inl (cI, 16, .inl (fun _ => 0))), (q10, .inl (cI, 24, .inl (fun _ => 0))), (q11, .inl (cI, 24, .inl (fun _ => 0))), (q12, .inl (cI, 24, .inl (fun _ => 0))), (q13, .inl (cI, 16, .inl (fun _ => 0))), (q14, .inl (cI, 11, .inl (fun _ => 0))), (q15, .inl (cI, 11, .inl (fun _ => 0))), (q16, .inl (cI, 11, .inl (fun _ => 0))), (q17, .inl (cI, 11, .inl (fun _ => 0))), (q18, .inl (cI, 16, .inl (fun _ => 0))), (q19, .inl (cI, 64, .inl (fun _ => 0)))]) rfl ?_
  refine cw_iconst (v := 0) hκ dX7_init_154 rfl ?_
  refine cw_istore_n (lv' := [(1, .int 0), (0, .ref h0)]) hκ dX7_init_155 rfl (by decide) rfl ?_
  refine cw_iload_n (j := 0) hκ dX7_init_156 rfl rfl ?_
  refine cw_iconst (v := 4) hκ dX7_init_157 rfl ?_
  refine cw_ge_n (tgt := 174) hκ dX7_init_158 (by decide) (by decide) ?_
  refine cw_aload_n (j := 1) hκ dX7_init_161 rfl rfl ?_
  refine cw_get (j := 0) (v := .ref q1) hκ dX7_init_162 kc_7 (by decide) (sy_mem 797 (by decide +kernel) rfl) rfl ?_
  refine cw_iload_n (j := 0) hκ dX7_init_165 rfl rfl ?_
  refine cw_iconst (v := (-1)) hκ dX7_init_166 rfl ?_
  refine cw_iast (q0 := 1) (ws' := [(h0, .inr (7, [.ref q1, .ref q2, .ref q3, .ref q4, .int 0, .ref q5, .ref q6, .int 0, .ref q7, .int 0, .ref q8, .int 0, .int 0, .ref q9, .int 0, .int 0, .int 0, .int 0, .int 0, .int 0, .ref q10, .ref q11, .ref q12, .ref q13, .ref q14, .ref q15, .ref q16, .ref q17, .int 0, .ref q18, .ref q19, .int 0])), (q1, .inl (cI, 4, .inl (upd (fun _ => 0) 0 (-1)))), (q2, .inl (cI, 4, .inl (fun _ => 0))), (q3, .inl (cI, 240, .inl (fun _ => 0))), (q4, .inl (cI, 60, .inl (fun _ => 0))), (q5, .inl (cI, 96, .inl (fun _ => 0))), (q6, .inl (cI, 2, .inl (fun _ => 0))), (q7, .inl (cI, 22, .inl (fun _ => 0))), (q8, .inl (cI, 32, .inl (fun _ => 0))), (q9, .inl (cI, 16, .inl (fun _ => 0))), (q10, .inl (cI, 24, .inl (fun _ => 0))), (q11, .inl (cI, 24, .inl (fun _ => 0))), (q12, .inl (cI, 24, .inl (fun _ => 0))), (q13, .inl (cI, 16, .inl (fun _ => 0))), (q14, .inl (cI, 11, .inl (fun _ => 0))), (q15, .inl (cI, 11, .inl (fun _ => 0))), (q16, .inl (cI, 11, .inl (fun _ => 0))), (q17, .inl (cI, 11, .inl (fun _ => 0))), (q18, .inl (cI, 16, .inl (fun _ => 0))), (q19, .inl (cI, 64, .inl (fun _ => 0)))]) hκ dX7_init_167 rfl (by unfold vp_in; decide) rfl ?_
  refine cw_iinc (j := 0) (v := 1) (lv' := [(1, .int 1), (0, .ref h0)]) hκ dX7_init_168 rfl rfl (by decide) rfl ?_
  refine cw_goto (tgt := 156) hκ dX7_init_171 (by decide) ?_
  refine cw_iload_n (j := 0) hκ dX7_init_156 rfl rfl ?_
  refine cw_iconst (v := 4) hκ dX7_init_157 rfl ?_
  refine cw_ge_n (tgt := 174) hκ dX7_init_158 (by decide) (by decide) ?_
  refine cw_aload_n (j := 1) hκ dX7_init_161 rfl rfl ?_
  refine cw_get (j := 0) (v := .ref q1) hκ dX7_init_162 kc_7 (by decide) (sy_mem 797 (by decide +kernel) rfl) rfl ?_
  refine cw_iload_n (j := 0) hκ dX7_init_165 rfl rfl ?_
  refine cw_iconst (v := (-1)) hκ dX7_init_166 rfl ?_
  refine cw_iast (q0 := 1) (ws' := [(h0, .inr (7, [.ref q1, .ref q2, .ref q3, .ref q4, .int 0, .ref q5, .ref q6, .int 0, .ref q7, .int 0, .ref q8, .int 0, .int 0, .ref q9, .int 0, .int 0, .int 0, .int 0, .int 0, .int 0, .ref q10, .ref q11, .ref q12, .ref q13, .ref q14, .ref q15, .ref q16, .ref q17, .int 0, .ref q18, .ref q19, .int 0])), (q1, .inl (cI, 4, .inl (upd (upd (fun _ => 0) 0 (-1)) 1 (-1)))), (q2, .inl (cI, 4, .inl (fun _ => 0))), (q3, .inl (cI, 240, .inl (fun _ => 0))), (q4, .inl (cI, 60, .inl (fun _ => 0))), (q5, .inl (cI, 96, .inl (fun _ => 0))), (q6, .inl (cI, 2, .inl (fun _ => 0))), (q7, .inl (cI, 22, .inl (fun _ => 0))), (q8, .inl (cI, 32, .inl (fun _ => 0))), (q9, .inl (cI, 16, .inl (fun _ => 0))), (q10, .inl (cI, 24, .inl (fun _ => 0))), (q11, .inl (cI, 24, .inl (fun _ => 0))), (q12, .inl (cI, 24, .inl (fun _ => 0))), (q13, .inl (cI, 16, .inl (fun _ => 0))), (q14, .inl (cI, 11, .inl (fun _ => 0))), (q15, .inl (cI, 11, .inl (fun _ => 0))), (q16, .inl (cI, 11, .inl (fun _ => 0))), (q17, .inl (cI, 11, .inl (fun _ => 0))), (q18, .inl (cI, 16, .inl (fun _ => 0))), (q19, .inl (cI, 64, .inl (fun _ => 0)))]) hκ dX7_init_167 rfl (by unfold vp_in; decide) rfl ?_
  refine cw_iinc (j := 0) (v := 2) (lv' := [(1, .int 2), (0, .ref h0)]) hκ dX7_init_168 rfl rfl (by decide) rfl ?_
  refine cw_goto (tgt := 156) hκ dX7_init_171 (by decide) ?_
  refine cw_iload_n (j := 0) hκ dX7_init_156 rfl rfl ?_
  refine cw_iconst (v := 4) hκ dX7_init_157 rfl ?_
  refine cw_ge_n (tgt := 174) hκ dX7_init_158 (by decide) (by decide) ?_
  refine cw_aload_n (j := 1) hκ dX7_init_161 rfl rfl ?_
  refine cw_get (j := 0) (v := .ref q1) hκ dX7_init_162 kc_7 (by decide) (sy_mem 797 (by decide +kernel) rfl) rfl ?_
  refine cw_iload_n (j := 0) hκ dX7_init_165 rfl rfl ?_
  refine cw_iconst (v := (-1)) hκ dX7_init_166 rfl ?_
  refine cw_iast (q0 := 1) (ws' := [(h0, .inr (7, [.ref q1, .ref q2, .ref q3, .ref q4, .int 0, .ref q5, .ref q6, .int 0, .ref q7, .int 0, .ref q8, .int 0, .int 0, .ref q9, .int 0, .int 0, .int 0, .int 0, .int 0, .int 0, .ref q10, .ref q11, .ref q12, .ref q13, .ref q14, .ref q15, .ref q16, .ref q17, .int 0, .ref q18, .ref q19, .int 0])), (q1, .inl (cI, 4, .inl (upd (upd (upd (fun _ => 0) 0 (-1)) 1 (-1)) 2 (-1)))), (q2, .inl (cI, 4, .inl (fun _ => 0))), (q3, .inl (cI, 240, .inl (fun _ => 0))), (q4, .inl (cI, 60, .inl (fun _ => 0))), (q5, .inl (cI, 96, .inl (fun _ => 0))), (q6, .inl (cI, 2, .inl (fun _ => 0))), (q7, .inl (cI, 22, .inl (fun _ => 0))), (q8, .inl (cI, 32, .inl (fun _ => 0))), (q9, .inl (cI, 16, .inl (fun _ => 0))), (q10, .inl (cI, 24, .inl (fun _ => 0))), (q11, .inl (cI, 24, .inl (fun _ => 0))), (q12, .inl (cI, 24, .inl (fun _ => 0))), (q13, .inl (cI, 16, .inl (fun _ => 0))), (q14, .inl (cI, 11, .inl (fun _ => 0))), (q15, .inl (cI, 11, .inl (fun _ => 0))), (q16, .inl (cI, 11, .inl (fun _ => 0))), (q17, .inl (cI, 11, .inl (fun _ => 0))), (q18, .inl (cI, 16, .inl (fun _ => 0))), (q19, .inl (cI, 64, .inl (fun _ => 0)))]) hκ dX7_init_167 rfl (by unfold vp_in; decide) rfl ?_
  refine cw_iinc (j := 0) (v := 3) (lv' := [(1, .int 3), (0, .ref h0)]) hκ dX7_init_168 rfl rfl (by decide) rfl ?_
  refine cw_goto (tgt := 156) hκ dX7_init_171 (by decide) ?_
  refine cw_iload_n (j := 0) hκ dX7_init_156 rfl rfl ?_
  refine cw_iconst (v := 4) hκ dX7_init_157 rfl ?_
  refine cw_ge_n (tgt := 174) hκ dX7_init_158 (by decide) (by decide) ?_
  refine cw_aload_n (j := 1) hκ dX7_init_161 rfl rfl ?_
  refine cw_get (j := 0) (v := .ref q1) hκ dX7_init_162 kc_7 (by decide) (sy_mem 797 (by decide +kernel) rfl) rfl ?_
  refine cw_iload_n (j := 0) hκ dX7_init_165 rfl rfl ?_
  refine cw_iconst (v := (-1)) hκ dX7_init_166 rfl ?_
  refine cw_iast (q0 := 1) (ws' := [(h0, .inr (7, [.ref q1, .ref q2, .ref q3, .ref q4, .int 0, .ref q5, .ref q6, .int 0, .ref q7, .int 0, .ref q8, .int 0, .int 0, .ref q9, .int 0, .int 0, .int 0, .int 0, .int 0, .int 0, .ref q10, .ref q11, .ref q12, .ref q13, .ref q14, .ref q15, .ref q16, .ref q17, .int 0, .ref q18, .ref q19, .int 0])), (q1, .inl (cI, 4, .inl (upd (upd (upd (upd (fun _ => 0) 0 (-1)) 1 (-1)) 2 (-1)) 3 (-1)))), (q2, .inl (cI, 4, .inl (fun _ => 0))), (q3, .inl (cI, 240, .inl (fun _ => 0))), (q4, .inl (cI, 60, .inl (fun _ => 0))), (q5, .inl (cI, 96, .inl (fun _ => 0))), (q6, .inl (cI, 2, .inl (fun _ => 0))), (q7, .inl (cI, 22, .inl (fun _ => 0))), (q8, .inl (cI, 32, .inl (fun _ => 0))), (q9, .inl (cI, 16, .inl (fun _ => 0))), (q10, .inl (cI, 24, .inl (fun _ => 0))), (q11, .inl (cI, 24, .inl (fun _ => 0))), (q12, .inl (cI, 24, .inl (fun _ => 0))), (q13, .inl (cI, 16, .inl (fun _ => 0))), (q14, .inl (cI, 11, .inl (fun _ => 0))), (q15, .inl (cI, 11, .inl (fun _ => 0))), (q16, .inl (cI, 11, .inl (fun _ => 0))), (q17, .inl (cI, 11, .inl (fun _ => 0))), (q18, .inl (cI, 16, .inl (fun _ => 0))), (q19, .inl (cI, 64, .inl (fun _ => 0)))]) hκ dX7_init_167 rfl (by unfold vp_in; decide) rfl ?_
  refine cw_iinc (j := 0) (v := 4) (lv' := [(1, .int 4), (0, .ref h0)]) hκ dX7_init_168 rfl rfl (by decide) rfl ?_
  refine cw_goto (tgt := 156) hκ dX7_init_171 (by decide) ?_
  refine cw_iload_n (j := 0) hκ dX7_init_156 rfl rfl ?_
  refine cw_iconst (v := 4) hκ dX7_init_157 rfl ?_
  refine cw_ge_y (tgt := 174) hκ dX7_init_158 (by decide) (by decide) ?_
  refine cw_aload_n (j := 1) hκ dX7_init_174 rfl rfl ?_
  refine cw_bipush (v := 40) hκ dX7_init_175 rfl ?_
  refine cw_put (j := 11) (fs' := [.ref q1, .ref q2, .ref q3, .ref q4, .int 0, .ref q5, .ref q6, .int 0, .ref q7, .int 0, .ref q8, .int 40, .int 0, .ref q9, .int 0, .int 0, .int 0, .int 0, .int 0, .int 0, .ref q10, .ref q11, .ref q12, .ref q13, .ref q14, .ref q15, .ref q16, .ref q17, .int 0, .ref q18, .ref q19, .int 0]) hκ dX7_init_177 kc_7 (by decide) (sy_mem 808 (by decide +kernel) rfl) rfl rfl rfl (Nat.le_of_ble_eq_true rfl) rfl ?_
  refine cw_aload_n (j := 1) hκ dX7_init_180 rfl rfl ?_
  refine cw_iconst (v := (-1)) hκ dX7_init_181 rfl ?_
  refine cw_put (j := 15) (fs' := [.ref q1, .ref q2, .ref q3, .ref q4, .int 0, .ref q5, .ref q6, .int 0, .ref q7, .int 0, .ref q8, .int 40, .int 0, .ref q9, .int 0, .int (-1), .int 0, .int 0, .int 0, .int 0, .ref q10, .ref q11, .ref q12, .ref q13, .ref q14, .ref q15, .ref q16, .ref q17, .int 0, .ref q18, .ref q19, .int 0]) hκ dX7_init_182 kc_7 (by decide) (sy_mem 812 (by decide +kernel) rfl) rfl rfl rfl (Nat.le_of_ble_eq_true rfl) rfl ?_
  exact hret (fun k => ([q1, q2, q3, q4, q5, q6, q7, q8, q9, q10, q11, q12, q13, q14, q15, q16, q17, q18, q19] : List Nat).getD k 0) _ _ dX7_init_185
def RW_X6 (cI cR : ClassId) (h0 : Nat) (u : Nat → Nat) : va_W := [(h0, .inr (6, [.ref (u 0), .ref (u 2), .ref (u 4), .ref (u 14), .ref (u 24), .ref (u 33), .ref (u 42), .ref (u 45), .ref (u 46), .ref (u 47), .ref (u 48), .ref (u 49), .ref (u 50), .ref (u 51), .int 0, .int 0, .int 0])), ((u 0), .inr (5, [.int 0, .int 32, .int 11, .ref (u 1), .int 0])), ((u 1), .inl (cI, 47, .inl (fun _ => 0))), ((u 2), .inr (5, [.int 1, .int 47, .int 16, .ref (u 3), .int 0])), ((u 3), .inl (cI, 47, .inl (fun _ => 0))), ((u 4), .inr (0, [.int 0, .ref (u 5), .ref (u 6), .ref (u 7), .ref (u 8), .int 0, .ref (u 9), .ref (u 10), .ref (u 11), .int 40, .int 0, .ref (u 12), .ref (u 13), .int 0, .int (-1)])), ((u 5), .inl (cI, 11, .inl (fun _ => 0))), ((u 6), .inl (cI, 11, .inl (fun _ => 0))), ((u 7), .inl (cI, 11, .inl (fun _ => 0))), ((u 8), .inl (cI, 11, .inl (fun _ => 0))), ((u 9), .inl (cI, 16, .inl (fun _ => 0))), ((u 10), .inl (cI, 16, .inl (fun _ => 0))), ((u 11), .inl (cI, 24, .inl (fun _ => 0))), ((u 12), .inl (cI, 8, .inl (fun _ => 0))), ((u 13), .inl (cI, 8, .inl (fun _ => 0))), ((u 14), .inr (0, [.int 0, .ref (u 15), .ref (u 16), .ref (u 17), .ref (u 18), .int 0, .ref (u 19), .ref (u 20), .ref (u 21), .int 40, .int 0, .ref (u 22), .ref (u 23), .int 0, .int (-1)])), ((u 15), .inl (cI, 11, .inl (fun _ => 0))), ((u 16), .inl (cI, 11, .inl (fun _ => 0))), ((u 17), .inl (cI, 11, .inl (fun _ => 0))), ((u 18), .inl (cI, 11, .inl (fun _ => 0))), ((u 19), .inl (cI, 16, .inl (fun _ => 0))), ((u 20), .inl (cI, 16, .inl (fun _ => 0))), ((u 21), .inl (cI, 24, .inl (fun _ => 0))), ((u 22), .inl (cI, 8, .inl (fun _ => 0))), ((u 23), .inl (cI, 8, .inl (fun _ => 0))), ((u 24), .inr (3, [.ref (u 25), .ref (u 26), .ref (u 27), .ref (u 28), .ref (u 29), .ref (u 30), .ref (u 31), .int 0, .int 0, .int 0, .int 0, .int 0, .ref (u 32), .int 0, .int 0, .int 0, .int 0])), ((u 25), .inl (cI, 24, .inl (fun _ => 0))), ((u 26), .inl (cI, 24, .inl (fun _ => 0))), ((u 27), .inl (cI, 24, .inl (fun _ => 0))), ((u 28), .inl (cI, 16, .inl (fun _ => 0))), ((u 29), .inl (cI, 11, .inl (fun _ => 0))), ((u 30), .inl (cI, 11, .inl (fun _ => 0))), ((u 31), .inl (cI, 11, .inl (fun _ => 0))), ((u 32), .inl (cI, 24, .inl (fun _ => 0))), ((u 33), .inr (3, [.ref (u 34), .ref (u 35), .ref (u 36), .ref (u 37), .ref (u 38), .ref (u 39), .ref (u 40), .int 0, .int 0, .int 0, .int 0, .int 0, .ref (u 41), .int 0, .int 0, .int 0, .int 0])), ((u 34), .inl (cI, 24, .inl (fun _ => 0))), ((u 35), .inl (cI, 24, .inl (fun _ => 0))), ((u 36), .inl (cI, 24, .inl (fun _ => 0))), ((u 37), .inl (cI, 16, .inl (fun _ => 0))), ((u 38), .inl (cI, 11, .inl (fun _ => 0))), ((u 39), .inl (cI, 11, .inl (fun _ => 0))), ((u 40), .inl (cI, 11, .inl (fun _ => 0))), ((u 41), .inl (cI, 24, .inl (fun _ => 0))), ((u 42), .inr (2, [.ref (u 43), .ref (u 44), .int 0])), ((u 43), .inl (cI, 8, .inl (fun _ => 0))), ((u 44), .inl (cI, 8, .inl (fun _ => 0))), ((u 45), .inr (1, [.int 0, .int 0, .int 0, .int 0])), ((u 46), .inr (1, [.int 0, .int 0, .int 0, .int 0])), ((u 47), .inr (1, [.int 0, .int 0, .int 0, .int 0])), ((u 48), .inr (1, [.int 0, .int 0, .int 0, .int 0])), ((u 49), .inl (cI, 256, .inl (fun _ => 0))), ((u 50), .inl (cI, 48, .inl (fun _ => 0))), ((u 51), .inl (cR, 4, .inr (.inr (.inr (.inr (va_up (va_up (va_up (va_up (fun _ => none) 0 (some (u 52))) 1 (some (u 54))) 2 (some (u 56))) 3 (some (u 58)))))))), ((u 52), .inr (4, [.int 1, .int 0, .int 0, .ref (u 53)])), ((u 53), .inl (cI, 60, .inl (fun _ => 0))), ((u 54), .inr (4, [.int 1, .int 0, .int 0, .ref (u 55)])), ((u 55), .inl (cI, 60, .inl (fun _ => 0))), ((u 56), .inr (4, [.int 1, .int 0, .int 0, .ref (u 57)])), ((u 57), .inl (cI, 60, .inl (fun _ => 0))), ((u 58), .inr (4, [.int 1, .int 0, .int 0, .ref (u 59)])), ((u 59), .inl (cI, 60, .inl (fun _ => 0)))]
set_option maxRecDepth 100000 in
set_option maxHeartbeats 4000000 in
theorem c_X6 : Cc yX6_init cX6_init 2 2 44 60 1289 6 [.null, .null, .null, .null, .null, .null, .null, .null, .null, .null, .null, .null, .null, .null, .int 0, .int 0, .int 0] [] N6 RW_X6 := by
  refine cc_of (own := RX6) (by decide) rfl rfl (fun h0 => Nat.le_of_ble_eq_true rfl) ?_
  intro κ cI cR h0 hκ hnm hN hret
  refine (?_ : Cw κ 0 0 [(h0, .inr (6, [.null, .null, .null, .null, .null, .null, .null, .null, .null, .null, .null, .null, .null, .null, .int 0, .int 0, .int 0]))] 0 [(0, .ref h0)] [])
  refine cw_aload_n (j := 0) hκ dX6_init_0 rfl rfl ?_
  refine cw_obj hκ dX6_init_1 (sy_mem 85 (by decide +kernel) rfl) jo_i jo_c (by decide) (by decide) ?_
  refine cw_aload_n (j := 0) hκ dX6_init_4 rfl rfl ?_
  refine cw_new (f0 := [.int 0, .int 0, .int 0, .null, .int 0]) hκ dX6_init_5 kc_5 (sy_mem 88 (by decide +kernel) rfl) jn_5.1 jn_5.2 jf_5 (Nat.le_of_ble_eq_true rfl) (Nat.le_of_ble_eq_true rfl) (fun q1 => ?_)
  refine cw_dup hκ dX6_init_8 ?_
  refine cw_iconst (v := 0) hκ dX6_init_9 rfl ?_
  refine cw_callI (n := 1) (q := q1) (st := [.ref q1, .ref h0]) hκ dX6_init_10 c_X5_0 okN_t trivial (sy_mem 90 (by decide +kernel) rfl) ji_5 jm_5 rfl rfl (by decide) (by decide) (Nat.le_of_ble_eq_true rfl) (Nat.le_of_ble_eq_true rfl) (Nat.le_of_ble_eq_true rfl) rfl (fun u2 => ?_)
  refine cw_ca ?_
  refine cw_putF (j := 0) (fs' := [.ref q1, .null, .null, .null, .null, .null, .null, .null, .null, .null, .null, .null, .null, .null, .int 0, .int 0, .int 0]) hκ hnm dX6_init_13 kc_6 (by decide) (sy_mem 323 (by decide +kernel) rfl) rfl rfl rfl rfl (Nat.le_of_ble_eq_true rfl) rfl ?_
  refine cw_aload_n (j := 0) hκ dX6_init_16 rfl rfl ?_
  refine cw_new (f0 := [.int 0, .int 0, .int 0, .null, .int 0]) hκ dX6_init_17 kc_5 (sy_mem 88 (by decide +kernel) rfl) jn_5.1 jn_5.2 jf_5 (Nat.le_of_ble_eq_true rfl) (Nat.le_of_ble_eq_true rfl) (fun q3 => ?_)
  refine cw_dup hκ dX6_init_20 ?_
  refine cw_iconst (v := 1) hκ dX6_init_21 rfl ?_
  refine cw_callI (n := 1) (q := q3) (st := [.ref q3, .ref h0]) hκ dX6_init_22 c_X5_1 okN_t trivial (sy_mem 90 (by decide +kernel) rfl) ji_5 jm_5 rfl rfl (by decide) (by decide) (Nat.le_of_ble_eq_true rfl) (Nat.le_of_ble_eq_true rfl) (Nat.le_of_ble_eq_true rfl) rfl (fun u4 => ?_)
  refine cw_ca ?_
  refine cw_putF (j := 1) (fs' := [.ref q1, .ref q3, .null, .null, .null, .null, .null, .null, .null, .null, .null, .null, .null, .null, .int 0, .int 0, .int 0]) hκ hnm dX6_init_25 kc_6 (by decide) (sy_mem 324 (by decide +kernel) rfl) rfl rfl rfl rfl (Nat.le_of_ble_eq_true rfl) rfl ?_
  refine cw_aload_n (j := 0) hκ dX6_init_28 rfl rfl ?_
  refine cw_new (f0 := [.int 0, .null, .null, .null, .null, .int 0, .null, .null, .null, .int 0, .int 0, .null, .null, .int 0, .int 0]) hκ dX6_init_29 kc_0 (sy_mem 112 (by decide +kernel) rfl) jn_0.1 jn_0.2 jf_0 (Nat.le_of_ble_eq_true rfl) (Nat.le_of_ble_eq_true rfl) (fun q5 => ?_)
  refine cw_dup hκ dX6_init_32 ?_
  refine cw_callN (n := 0) (q := q5) (st := [.ref q5, .ref h0]) hκ dX6_init_33 c_X0 okN_t trivial hN.1 ji_0 jm_0 rfl rfl (by decide) (by decide) (Nat.le_of_ble_eq_true rfl) (Nat.le_of_ble_eq_true rfl) (Nat.le_of_ble_eq_true rfl) rfl (fun u6 => ?_)
  refine cw_ca ?_
  refine cw_putF (j := 2) (fs' := [.ref q1, .ref q3, .ref q5, .null, .null, .null, .null, .null, .null, .null, .null, .null, .null, .null, .int 0, .int 0, .int 0]) hκ hnm dX6_init_36 kc_6 (by decide) (sy_mem 325 (by decide +kernel) rfl) rfl rfl rfl rfl (Nat.le_of_ble_eq_true rfl) rfl ?_
  refine cw_aload_n (j := 0) hκ dX6_init_39 rfl rfl ?_
  refine cw_new (f0 := [.int 0, .null, .null, .null, .null, .int 0, .null, .null, .null, .int 0, .int 0, .null, .null, .int 0, .int 0]) hκ dX6_init_40 kc_0 (sy_mem 112 (by decide +kernel) rfl) jn_0.1 jn_0.2 jf_0 (Nat.le_of_ble_eq_true rfl) (Nat.le_of_ble_eq_true rfl) (fun q7 => ?_)
  refine cw_dup hκ dX6_init_43 ?_
  refine cw_callN (n := 0) (q := q7) (st := [.ref q7, .ref h0]) hκ dX6_init_44 c_X0 okN_t trivial hN.1 ji_0 jm_0 rfl rfl (by decide) (by decide) (Nat.le_of_ble_eq_true rfl) (Nat.le_of_ble_eq_true rfl) (Nat.le_of_ble_eq_true rfl) rfl (fun u8 => ?_)
  refine cw_ca ?_
  refine cw_putF (j := 3) (fs' := [.ref q1, .ref q3, .ref q5, .ref q7, .null, .null, .null, .null, .null, .null, .null, .null, .null, .null, .int 0, .int 0, .int 0]) hκ hnm dX6_init_47 kc_6 (by decide) (sy_mem 326 (by decide +kernel) rfl) rfl rfl rfl rfl (Nat.le_of_ble_eq_true rfl) rfl ?_
  refine cw_aload_n (j := 0) hκ dX6_init_50 rfl rfl ?_
  refine cw_new (f0 := [.null, .null, .null, .null, .null, .null, .null, .int 0, .int 0, .int 0, .int 0, .int 0, .null, .int 0, .int 0, .int 0, .int 0]) hκ dX6_init_51 kc_3 (sy_mem 188 (by decide +kernel) rfl) jn_3.1 jn_3.2 jf_3 (Nat.le_of_ble_eq_true rfl) (Nat.le_of_ble_eq_true rfl) (fun q9 => ?_)
  refine cw_dup hκ dX6_init_54 ?_
  refine cw_callN (n := 0) (q := q9) (st := [.ref q9, .ref h0]) hκ dX6_init_55 c_X3 okN_t trivial hN.2.1 ji_3 jm_3 rfl rfl (by decide) (by decide) (Nat.le_of_ble_eq_true rfl) (Nat.le_of_ble_eq_true rfl) (Nat.le_of_ble_eq_true rfl) rfl (fun u10 => ?_)
  refine cw_ca ?_
  refine cw_putF (j := 4) (fs' := [.ref q1, .ref q3, .ref q5, .ref q7, .ref q9, .null, .null, .null, .null, .null, .null, .null, .null, .null, .int 0, .int 0, .int 0]) hκ hnm dX6_init_58 kc_6 (by decide) (sy_mem 327 (by decide +kernel) rfl) rfl rfl rfl rfl (Nat.le_of_ble_eq_true rfl) rfl ?_
  refine cw_aload_n (j := 0) hκ dX6_init_61 rfl rfl ?_
  refine cw_new (f0 := [.null, .null, .null, .null, .null, .null, .null, .int 0, .int 0, .int 0, .int 0, .int 0, .null, .int 0, .int 0, .int 0, .int 0]) hκ dX6_init_62 kc_3 (sy_mem 188 (by decide +kernel) rfl) jn_3.1 jn_3.2 jf_3 (Nat.le_of_ble_eq_true rfl) (Nat.le_of_ble_eq_true rfl) (fun q11 => ?_)
  refine cw_dup hκ dX6_init_65 ?_
  refine cw_callN (n := 0) (q := q11) (st := [.ref q11, .ref h0]) hκ dX6_init_66 c_X3 okN_t trivial hN.2.1 ji_3 jm_3 rfl rfl (by decide) (by decide) (Nat.le_of_ble_eq_true rfl) (Nat.le_of_ble_eq_true rfl) (Nat.le_of_ble_eq_true rfl) rfl (fun u12 => ?_)
  refine cw_ca ?_
  refine cw_putF (j := 5) (fs' := [.ref q1, .ref q3, .ref q5, .ref q7, .ref q9, .ref q11, .null, .null, .null, .null, .null, .null, .null, .null, .int 0, .int 0, .int 0]) hκ hnm dX6_init_69 kc_6 (by decide) (sy_mem 328 (by decide +kernel) rfl) rfl rfl rfl rfl (Nat.le_of_ble_eq_true rfl) rfl ?_
  refine cw_aload_n (j := 0) hκ dX6_init_72 rfl rfl ?_
  refine cw_new (f0 := [.null, .null, .int 0]) hκ dX6_init_73 kc_2 (sy_mem 259 (by decide +kernel) rfl) jn_2.1 jn_2.2 jf_2 (Nat.le_of_ble_eq_true rfl) (Nat.le_of_ble_eq_true rfl) (fun q13 => ?_)
  refine cw_dup hκ dX6_init_76 ?_
  refine cw_callN (n := 0) (q := q13) (st := [.ref q13, .ref h0]) hκ dX6_init_77 c_X2 okN_t trivial hN.2.2.1 ji_2 jm_2 rfl rfl (by decide) (by decide) (Nat.le_of_ble_eq_true rfl) (Nat.le_of_ble_eq_true rfl) (Nat.le_of_ble_eq_true rfl) rfl (fun u14 => ?_)
  refine cw_ca ?_
  refine cw_putF (j := 6) (fs' := [.ref q1, .ref q3, .ref q5, .ref q7, .ref q9, .ref q11, .ref q13, .null, .null, .null, .null, .null, .null, .null, .int 0, .int 0, .int 0]) hκ hnm dX6_init_80 kc_6 (by decide) (sy_mem 329 (by decide +kernel) rfl) rfl rfl rfl rfl (Nat.le_of_ble_eq_true rfl) rfl ?_
  refine cw_aload_n (j := 0) hκ dX6_init_83 rfl rfl ?_
  refine cw_new (f0 := [.int 0, .int 0, .int 0, .int 0]) hκ dX6_init_84 kc_1 (sy_mem 276 (by decide +kernel) rfl) jn_1.1 jn_1.2 jf_1 (Nat.le_of_ble_eq_true rfl) (Nat.le_of_ble_eq_true rfl) (fun q15 => ?_)
  refine cw_dup hκ dX6_init_87 ?_
  refine cw_callN (n := 0) (q := q15) (st := [.ref q15, .ref h0]) hκ dX6_init_88 c_X1 okN_t trivial hN.2.2.2.1 ji_1 jm_1 rfl rfl (by decide) (by decide) (Nat.le_of_ble_eq_true rfl) (Nat.le_of_ble_eq_true rfl) (Nat.le_of_ble_eq_true rfl) rfl (fun u16 => ?_)
  refine cw_ca ?_
  refine cw_putF (j := 7) (fs' := [.ref q1, .ref q3, .ref q5, .ref q7, .ref q9, .ref q11, .ref q13, .ref q15, .null, .null, .null, .null, .null, .null, .int 0, .int 0, .int 0]) hκ hnm dX6_init_91 kc_6 (by decide) (sy_mem 330 (by decide +kernel) rfl) rfl rfl rfl rfl (Nat.le_of_ble_eq_true rfl) rfl ?_
  refine cw_aload_n (j := 0) hκ dX6_init_94 rfl rfl ?_
  refine cw_new (f0 := [.int 0, .int 0, .int 0, .int 0]) hκ dX6_init_95 kc_1 (sy_mem 276 (by decide +kernel) rfl) jn_1.1 jn_1.2 jf_1 (Nat.le_of_ble_eq_true rfl) (Nat.le_of_ble_eq_true rfl) (fun q17 => ?_)
  refine cw_dup hκ dX6_init_98 ?_
  refine cw_callN (n := 0) (q := q17) (st := [.ref q17, .ref h0]) hκ dX6_init_99 c_X1 okN_t trivial hN.2.2.2.1 ji_1 jm_1 rfl rfl (by decide) (by decide) (Nat.le_of_ble_eq_true rfl) (Nat.le_of_ble_eq_true rfl) (Nat.le_of_ble_eq_true rfl) rfl (fun u18 => ?_)
  refine cw_ca ?_
  refine cw_putF (j := 8) (fs' := [.ref q1, .ref q3, .ref q5, .ref q7, .ref q9, .ref q11, .ref q13, .ref q15, .ref q17, .null, .null, .null, .null, .null, .int 0, .int 0, .int 0]) hκ hnm dX6_init_102 kc_6 (by decide) (sy_mem 331 (by decide +kernel) rfl) rfl rfl rfl rfl (Nat.le_of_ble_eq_true rfl) rfl ?_
  refine cw_aload_n (j := 0) hκ dX6_init_105 rfl rfl ?_
  refine cw_new (f0 := [.int 0, .int 0, .int 0, .int 0]) hκ dX6_init_106 kc_1 (sy_mem 276 (by decide +kernel) rfl) jn_1.1 jn_1.2 jf_1 (Nat.le_of_ble_eq_true rfl) (Nat.le_of_ble_eq_true rfl) (fun q19 => ?_)
  refine cw_dup hκ dX6_init_109 ?_
  refine cw_callN (n := 0) (q := q19) (st := [.ref q19, .ref h0]) hκ dX6_init_110 c_X1 okN_t trivial hN.2.2.2.1 ji_1 jm_1 rfl rfl (by decide) (by decide) (Nat.le_of_ble_eq_true rfl) (Nat.le_of_ble_eq_true rfl) (Nat.le_of_ble_eq_true rfl) rfl (fun u20 => ?_)
  refine cw_ca ?_
  refine cw_putF (j := 9) (fs' := [.ref q1, .ref q3, .ref q5, .ref q7, .ref q9, .ref q11, .ref q13, .ref q15, .ref q17, .ref q19, .null, .null, .null, .null, .int 0, .int 0, .int 0]) hκ hnm dX6_init_113 kc_6 (by decide) (sy_mem 332 (by decide +kernel) rfl) rfl rfl rfl rfl (Nat.le_of_ble_eq_true rfl) rfl ?_
  refine cw_aload_n (j := 0) hκ dX6_init_116 rfl rfl ?_
  refine cw_new (f0 := [.int 0, .int 0, .int 0, .int 0]) hκ dX6_init_117 kc_1 (sy_mem 276 (by decide +kernel) rfl) jn_1.1 jn_1.2 jf_1 (Nat.le_of_ble_eq_true rfl) (Nat.le_of_ble_eq_true rfl) (fun q21 => ?_)
  refine cw_dup hκ dX6_init_120 ?_
  refine cw_callN (n := 0) (q := q21) (st := [.ref q21, .ref h0]) hκ dX6_init_121 c_X1 okN_t trivial hN.2.2.2.1 ji_1 jm_1 rfl rfl (by decide) (by decide) (Nat.le_of_ble_eq_true rfl) (Nat.le_of_ble_eq_true rfl) (Nat.le_of_ble_eq_true rfl) rfl (fun u22 => ?_)
  refine cw_ca ?_
  refine cw_putF (j := 10) (fs' := [.ref q1, .ref q3, .ref q5, .ref q7, .ref q9, .ref q11, .ref q13, .ref q15, .ref q17, .ref q19, .ref q21, .null, .null, .null, .int 0, .int 0, .int 0]) hκ hnm dX6_init_124 kc_6 (by decide) (sy_mem 333 (by decide +kernel) rfl) rfl rfl rfl rfl (Nat.le_of_ble_eq_true rfl) rfl ?_
  refine cw_aload_n (j := 0) hκ dX6_init_127 rfl rfl ?_
  refine cw_sipush (v := 256) hκ dX6_init_128 rfl ?_
  refine cw_newa (N := 256) hκ dX6_init_131 (by decide) rfl (Nat.le_of_ble_eq_true rfl) (Nat.le_of_ble_eq_true rfl) (Nat.le_of_ble_eq_true rfl) jo_a (fun q23 => ?_)
  refine cw_ca ?_
  refine cw_putF (j := 11) (fs' := [.ref q1, .ref q3, .ref q5, .ref q7, .ref q9, .ref q11, .ref q13, .ref q15, .ref q17, .ref q19, .ref q21, .ref q23, .null, .null, .int 0, .int 0, .int 0]) hκ hnm dX6_init_133 kc_6 (by decide) (sy_mem 334 (by decide +kernel) rfl) rfl rfl rfl rfl (Nat.le_of_ble_eq_true rfl) rfl ?_
  refine cw_aload_n (j := 0) hκ dX6_init_136 rfl rfl ?_
  refine cw_bipush (v := 48) hκ dX6_init_137 rfl ?_
  refine cw_newa (N := 48) hκ dX6_init_139 (by decide) rfl (Nat.le_of_ble_eq_true rfl) (Nat.le_of_ble_eq_true rfl) (Nat.le_of_ble_eq_true rfl) jo_a (fun q24 => ?_)
  refine cw_ca ?_
  refine cw_putF (j := 12) (fs' := [.ref q1, .ref q3, .ref q5, .ref q7, .ref q9, .ref q11, .ref q13, .ref q15, .ref q17, .ref q19, .ref q21, .ref q23, .ref q24, .null, .int 0, .int 0, .int 0]) hκ hnm dX6_init_141 kc_6 (by decide) (sy_mem 335 (by decide +kernel) rfl) rfl rfl rfl rfl (Nat.le_of_ble_eq_true rfl) rfl ?_
  refine cw_aload_n (j := 0) hκ dX6_init_144 rfl rfl ?_
  refine cw_iconst (v := 4) hκ dX6_init_145 rfl ?_
  refine cw_newq (N := 4) hκ dX6_init_146 (sy_mem 299 (by decide +kernel) rfl) hN.2.2.2.2.2 (by decide) rfl (Nat.le_of_ble_eq_true rfl) (Nat.le_of_ble_eq_true rfl) (Nat.le_of_ble_eq_true rfl) (fun q25 => ?_)
  refine cw_ca ?_
  refine cw_putF (j := 13) (fs' := [.ref q1, .ref q3, .ref q5, .ref q7, .ref q9, .ref q11, .ref q13, .ref q15, .ref q17, .ref q19, .ref q21, .ref q23, .ref q24, .ref q25, .int 0, .int 0, .int 0]) hκ hnm dX6_init_149 kc_6 (by decide) (sy_mem 336 (by decide +kernel) rfl) rfl rfl rfl rfl (Nat.le_of_ble_eq_true rfl) rfl ?_
  refine cw_aload_n (j := 0) hκ dX6_init_152 rfl rfl ?_
  refine cw_iconst (v := 0) hκ dX6_init_153 rfl ?_
  refine cw_put (j := 14) (fs' := [.ref q1, .ref q3, .ref q5, .ref q7, .ref q9, .ref q11, .ref q13, .ref q15, .ref q17, .ref q19, .ref q21, .ref q23, .ref q24, .ref q25, .int 0, .int 0, .int 0]) hκ dX6_init_154 kc_6 (by decide) (sy_mem 337 (by decide +kernel) rfl) rfl rfl rfl (Nat.le_of_ble_eq_true rfl) rfl ?_
  refine cw_aload_n (j := 0) hκ dX6_init_157 rfl rfl ?_
  refine cw_iconst (v := 0) hκ dX6_init_158 rfl ?_
  refine cw_put (j := 15) (fs' := [.ref q1, .ref q3, .ref q5, .ref q7, .ref q9, .ref q11, .ref q13, .ref q15, .ref q17, .ref q19, .ref q21, .ref q23, .ref q24, .ref q25, .int 0, .int 0, .int 0]) hκ dX6_init_159 kc_6 (by decide) (sy_mem 338 (by decide +kernel) rfl) rfl rfl rfl (Nat.le_of_ble_eq_true rfl) rfl ?_
  refine cw_aload_n (j := 0) hκ dX6_init_162 rfl rfl ?_
  refine cw_iconst (v := 0) hκ dX6_init_163 rfl ?_
  refine cw_put (j := 16) (fs' := [.ref q1, .ref q3, .ref q5, .ref q7, .ref q9, .ref q11, .ref q13, .ref q15, .ref q17, .ref q19, .ref q21, .ref q23, .ref q24, .ref q25, .int 0, .int 0, .int 0]) hκ dX6_init_164 kc_6 (by decide) (sy_mem 339 (by decide +kernel) rfl) rfl rfl rfl (Nat.le_of_ble_eq_true rfl) rfl ?_
  refine cw_w (ws' := [(h0, .inr (6, [.ref q1, .ref q3, .ref q5, .ref q7, .ref q9, .ref q11, .ref q13, .ref q15, .ref q17, .ref q19, .ref q21, .ref q23, .ref q24, .ref q25, .int 0, .int 0, .int 0])), (q1, .inr (5, [.int 0, .int 32, .int 11, .ref (u2 0), .int 0])), ((u2 0), .inl (cI, 47, .inl (fun _ => 0))), (q3, .inr (5, [.int 1, .int 47, .int 16, .ref (u4 0), .int 0])), ((u4 0), .inl (cI, 47, .inl (fun _ => 0))), (q5, .inr (0, [.int 0, .ref (u6 0), .ref (u6 1), .ref (u6 2), .ref (u6 3), .int 0, .ref (u6 4), .ref (u6 5), .ref (u6 6), .int 40, .int 0, .ref (u6 7), .ref (u6 8), .int 0, .int (-1)])), ((u6 0), .inl (cI, 11, .inl (fun _ => 0))), ((u6 1), .inl (cI, 11, .inl (fun _ => 0))), ((u6 2), .inl (cI, 11, .inl (fun _ => 0))), ((u6 3), .inl (cI, 11, .inl (fun _ => 0))), ((u6 4), .inl (cI, 16, .inl (fun _ => 0))), ((u6 5), .inl (cI, 16, .inl (fun _ => 0))), ((u6 6), .inl (cI, 24, .inl (fun _ => 0))), ((u6 7), .inl (cI, 8, .inl (fun _ => 0))), ((u6 8), .inl (cI, 8, .inl (fun _ => 0))), (q7, .inr (0, [.int 0, .ref (u8 0), .ref (u8 1), .ref (u8 2), .ref (u8 3), .int 0, .ref (u8 4), .ref (u8 5), .ref (u8 6), .int 40, .int 0, .ref (u8 7), .ref (u8 8), .int 0, .int (-1)])), ((u8 0), .inl (cI, 11, .inl (fun _ => 0))), ((u8 1), .inl (cI, 11, .inl (fun _ => 0))), ((u8 2), .inl (cI, 11, .inl (fun _ => 0))), ((u8 3), .inl (cI, 11, .inl (fun _ => 0))), ((u8 4), .inl (cI, 16, .inl (fun _ => 0))), ((u8 5), .inl (cI, 16, .inl (fun _ => 0))), ((u8 6), .inl (cI, 24, .inl (fun _ => 0))), ((u8 7), .inl (cI, 8, .inl (fun _ => 0))), ((u8 8), .inl (cI, 8, .inl (fun _ => 0))), (q9, .inr (3, [.ref (u10 0), .ref (u10 1), .ref (u10 2), .ref (u10 3), .ref (u10 4), .ref (u10 5), .ref (u10 6), .int 0, .int 0, .int 0, .int 0, .int 0, .ref (u10 7), .int 0, .int 0, .int 0, .int 0])), ((u10 0), .inl (cI, 24, .inl (fun _ => 0))), ((u10 1), .inl (cI, 24, .inl (fun _ => 0))), ((u10 2), .inl (cI, 24, .inl (fun _ => 0))), ((u10 3), .inl (cI, 16, .inl (fun _ => 0))), ((u10 4), .inl (cI, 11, .inl (fun _ => 0))), ((u10 5), .inl (cI, 11, .inl (fun _ => 0))), ((u10 6), .inl (cI, 11, .inl (fun _ => 0))), ((u10 7), .inl (cI, 24, .inl (fun _ => 0))), (q11, .inr (3, [.ref (u12 0), .ref (u12 1), .ref (u12 2), .ref (u12 3), .ref (u12 4), .ref (u12 5), .ref (u12 6), .int 0, .int 0, .int 0, .int 0, .int 0, .ref (u12 7), .int 0, .int 0, .int 0, .int 0])), ((u12 0), .inl (cI, 24, .inl (fun _ => 0))), ((u12 1), .inl (cI, 24, .inl (fun _ => 0))), ((u12 2), .inl (cI, 24, .inl (fun _ => 0))), ((u12 3), .inl (cI, 16, .inl (fun _ => 0))), ((u12 4), .inl (cI, 11, .inl (fun _ => 0))), ((u12 5), .inl (cI, 11, .inl (fun _ => 0))), ((u12 6), .inl (cI, 11, .inl (fun _ => 0))), ((u12 7), .inl (cI, 24, .inl (fun _ => 0))), (q13, .inr (2, [.ref (u14 0), .ref (u14 1), .int 0])), ((u14 0), .inl (cI, 8, .inl (fun _ => 0))), ((u14 1), .inl (cI, 8, .inl (fun _ => 0))), (q15, .inr (1, [.int 0, .int 0, .int 0, .int 0])), (q17, .inr (1, [.int 0, .int 0, .int 0, .int 0])), (q19, .inr (1, [.int 0, .int 0, .int 0, .int 0])), (q21, .inr (1, [.int 0, .int 0, .int 0, .int 0])), (q23, .inl (cI, 256, .inl (fun _ => 0))), (q24, .inl (cI, 48, .inl (fun _ => 0))), (q25, .inl (cR, 4, .inr (.inr (.inr (.inr (fun _ => none))))))]) rfl ?_
  refine cw_iconst (v := 0) hκ dX6_init_167 rfl ?_
  refine cw_istore_n (lv' := [(1, .int 0), (0, .ref h0)]) hκ dX6_init_168 rfl (by decide) rfl ?_
  refine cw_iload_n (j := 0) hκ dX6_init_169 rfl rfl ?_
  refine cw_iconst (v := 4) hκ dX6_init_170 rfl ?_
  refine cw_ge_n (tgt := 193) hκ dX6_init_171 (by decide) (by decide) ?_
  refine cw_aload_n (j := 1) hκ dX6_init_174 rfl rfl ?_
  refine cw_get (j := 13) (v := .ref q25) hκ dX6_init_175 kc_6 (by decide) (sy_mem 336 (by decide +kernel) rfl) rfl ?_
  refine cw_iload_n (j := 0) hκ dX6_init_178 rfl rfl ?_
  refine cw_new (f0 := [.int 0, .int 0, .int 0, .null]) hκ dX6_init_179 kc_4 (sy_mem 299 (by decide +kernel) rfl) jn_4.1 jn_4.2 jf_4 (Nat.le_of_ble_eq_true rfl) (Nat.le_of_ble_eq_true rfl) (fun q26 => ?_)
  refine cw_dup hκ dX6_init_182 ?_
  refine cw_callN (n := 0) (q := q26) (st := [.ref q26, .int 0, .ref q25]) hκ dX6_init_183 c_X4 okN_t trivial hN.2.2.2.2.1 ji_4 jm_4 rfl rfl (by decide) (by decide) (Nat.le_of_ble_eq_true rfl) (Nat.le_of_ble_eq_true rfl) (Nat.le_of_ble_eq_true rfl) rfl (fun u27 => ?_)
  refine cw_w (ws' := [(h0, .inr (6, [.ref q1, .ref q3, .ref q5, .ref q7, .ref q9, .ref q11, .ref q13, .ref q15, .ref q17, .ref q19, .ref q21, .ref q23, .ref q24, .ref q25, .int 0, .int 0, .int 0])), (q1, .inr (5, [.int 0, .int 32, .int 11, .ref (u2 0), .int 0])), ((u2 0), .inl (cI, 47, .inl (fun _ => 0))), (q3, .inr (5, [.int 1, .int 47, .int 16, .ref (u4 0), .int 0])), ((u4 0), .inl (cI, 47, .inl (fun _ => 0))), (q5, .inr (0, [.int 0, .ref (u6 0), .ref (u6 1), .ref (u6 2), .ref (u6 3), .int 0, .ref (u6 4), .ref (u6 5), .ref (u6 6), .int 40, .int 0, .ref (u6 7), .ref (u6 8), .int 0, .int (-1)])), ((u6 0), .inl (cI, 11, .inl (fun _ => 0))), ((u6 1), .inl (cI, 11, .inl (fun _ => 0))), ((u6 2), .inl (cI, 11, .inl (fun _ => 0))), ((u6 3), .inl (cI, 11, .inl (fun _ => 0))), ((u6 4), .inl (cI, 16, .inl (fun _ => 0))), ((u6 5), .inl (cI, 16, .inl (fun _ => 0))), ((u6 6), .inl (cI, 24, .inl (fun _ => 0))), ((u6 7), .inl (cI, 8, .inl (fun _ => 0))), ((u6 8), .inl (cI, 8, .inl (fun _ => 0))), (q7, .inr (0, [.int 0, .ref (u8 0), .ref (u8 1), .ref (u8 2), .ref (u8 3), .int 0, .ref (u8 4), .ref (u8 5), .ref (u8 6), .int 40, .int 0, .ref (u8 7), .ref (u8 8), .int 0, .int (-1)])), ((u8 0), .inl (cI, 11, .inl (fun _ => 0))), ((u8 1), .inl (cI, 11, .inl (fun _ => 0))), ((u8 2), .inl (cI, 11, .inl (fun _ => 0))), ((u8 3), .inl (cI, 11, .inl (fun _ => 0))), ((u8 4), .inl (cI, 16, .inl (fun _ => 0))), ((u8 5), .inl (cI, 16, .inl (fun _ => 0))), ((u8 6), .inl (cI, 24, .inl (fun _ => 0))), ((u8 7), .inl (cI, 8, .inl (fun _ => 0))), ((u8 8), .inl (cI, 8, .inl (fun _ => 0))), (q9, .inr (3, [.ref (u10 0), .ref (u10 1), .ref (u10 2), .ref (u10 3), .ref (u10 4), .ref (u10 5), .ref (u10 6), .int 0, .int 0, .int 0, .int 0, .int 0, .ref (u10 7), .int 0, .int 0, .int 0, .int 0])), ((u10 0), .inl (cI, 24, .inl (fun _ => 0))), ((u10 1), .inl (cI, 24, .inl (fun _ => 0))), ((u10 2), .inl (cI, 24, .inl (fun _ => 0))), ((u10 3), .inl (cI, 16, .inl (fun _ => 0))), ((u10 4), .inl (cI, 11, .inl (fun _ => 0))), ((u10 5), .inl (cI, 11, .inl (fun _ => 0))), ((u10 6), .inl (cI, 11, .inl (fun _ => 0))), ((u10 7), .inl (cI, 24, .inl (fun _ => 0))), (q11, .inr (3, [.ref (u12 0), .ref (u12 1), .ref (u12 2), .ref (u12 3), .ref (u12 4), .ref (u12 5), .ref (u12 6), .int 0, .int 0, .int 0, .int 0, .int 0, .ref (u12 7), .int 0, .int 0, .int 0, .int 0])), ((u12 0), .inl (cI, 24, .inl (fun _ => 0))), ((u12 1), .inl (cI, 24, .inl (fun _ => 0))), ((u12 2), .inl (cI, 24, .inl (fun _ => 0))), ((u12 3), .inl (cI, 16, .inl (fun _ => 0))), ((u12 4), .inl (cI, 11, .inl (fun _ => 0))), ((u12 5), .inl (cI, 11, .inl (fun _ => 0))), ((u12 6), .inl (cI, 11, .inl (fun _ => 0))), ((u12 7), .inl (cI, 24, .inl (fun _ => 0))), (q13, .inr (2, [.ref (u14 0), .ref (u14 1), .int 0])), ((u14 0), .inl (cI, 8, .inl (fun _ => 0))), ((u14 1), .inl (cI, 8, .inl (fun _ => 0))), (q15, .inr (1, [.int 0, .int 0, .int 0, .int 0])), (q17, .inr (1, [.int 0, .int 0, .int 0, .int 0])), (q19, .inr (1, [.int 0, .int 0, .int 0, .int 0])), (q21, .inr (1, [.int 0, .int 0, .int 0, .int 0])), (q23, .inl (cI, 256, .inl (fun _ => 0))), (q24, .inl (cI, 48, .inl (fun _ => 0))), (q25, .inl (cR, 4, .inr (.inr (.inr (.inr (fun _ => none)))))), (q26, .inr (4, [.int 1, .int 0, .int 0, .ref (u27 0)])), ((u27 0), .inl (cI, 60, .inl (fun _ => 0)))]) rfl ?_
  refine cw_aast (q0 := 52) (qk := 53) (ws' := [(h0, .inr (6, [.ref q1, .ref q3, .ref q5, .ref q7, .ref q9, .ref q11, .ref q13, .ref q15, .ref q17, .ref q19, .ref q21, .ref q23, .ref q24, .ref q25, .int 0, .int 0, .int 0])), (q1, .inr (5, [.int 0, .int 32, .int 11, .ref (u2 0), .int 0])), ((u2 0), .inl (cI, 47, .inl (fun _ => 0))), (q3, .inr (5, [.int 1, .int 47, .int 16, .ref (u4 0), .int 0])), ((u4 0), .inl (cI, 47, .inl (fun _ => 0))), (q5, .inr (0, [.int 0, .ref (u6 0), .ref (u6 1), .ref (u6 2), .ref (u6 3), .int 0, .ref (u6 4), .ref (u6 5), .ref (u6 6), .int 40, .int 0, .ref (u6 7), .ref (u6 8), .int 0, .int (-1)])), ((u6 0), .inl (cI, 11, .inl (fun _ => 0))), ((u6 1), .inl (cI, 11, .inl (fun _ => 0))), ((u6 2), .inl (cI, 11, .inl (fun _ => 0))), ((u6 3), .inl (cI, 11, .inl (fun _ => 0))), ((u6 4), .inl (cI, 16, .inl (fun _ => 0))), ((u6 5), .inl (cI, 16, .inl (fun _ => 0))), ((u6 6), .inl (cI, 24, .inl (fun _ => 0))), ((u6 7), .inl (cI, 8, .inl (fun _ => 0))), ((u6 8), .inl (cI, 8, .inl (fun _ => 0))), (q7, .inr (0, [.int 0, .ref (u8 0), .ref (u8 1), .ref (u8 2), .ref (u8 3), .int 0, .ref (u8 4), .ref (u8 5), .ref (u8 6), .int 40, .int 0, .ref (u8 7), .ref (u8 8), .int 0, .int (-1)])), ((u8 0), .inl (cI, 11, .inl (fun _ => 0))), ((u8 1), .inl (cI, 11, .inl (fun _ => 0))), ((u8 2), .inl (cI, 11, .inl (fun _ => 0))), ((u8 3), .inl (cI, 11, .inl (fun _ => 0))), ((u8 4), .inl (cI, 16, .inl (fun _ => 0))), ((u8 5), .inl (cI, 16, .inl (fun _ => 0))), ((u8 6), .inl (cI, 24, .inl (fun _ => 0))), ((u8 7), .inl (cI, 8, .inl (fun _ => 0))), ((u8 8), .inl (cI, 8, .inl (fun _ => 0))), (q9, .inr (3, [.ref (u10 0), .ref (u10 1), .ref (u10 2), .ref (u10 3), .ref (u10 4), .ref (u10 5), .ref (u10 6), .int 0, .int 0, .int 0, .int 0, .int 0, .ref (u10 7), .int 0, .int 0, .int 0, .int 0])), ((u10 0), .inl (cI, 24, .inl (fun _ => 0))), ((u10 1), .inl (cI, 24, .inl (fun _ => 0))), ((u10 2), .inl (cI, 24, .inl (fun _ => 0))), ((u10 3), .inl (cI, 16, .inl (fun _ => 0))), ((u10 4), .inl (cI, 11, .inl (fun _ => 0))), ((u10 5), .inl (cI, 11, .inl (fun _ => 0))), ((u10 6), .inl (cI, 11, .inl (fun _ => 0))), ((u10 7), .inl (cI, 24, .inl (fun _ => 0))), (q11, .inr (3, [.ref (u12 0), .ref (u12 1), .ref (u12 2), .ref (u12 3), .ref (u12 4), .ref (u12 5), .ref (u12 6), .int 0, .int 0, .int 0, .int 0, .int 0, .ref (u12 7), .int 0, .int 0, .int 0, .int 0])), ((u12 0), .inl (cI, 24, .inl (fun _ => 0))), ((u12 1), .inl (cI, 24, .inl (fun _ => 0))), ((u12 2), .inl (cI, 24, .inl (fun _ => 0))), ((u12 3), .inl (cI, 16, .inl (fun _ => 0))), ((u12 4), .inl (cI, 11, .inl (fun _ => 0))), ((u12 5), .inl (cI, 11, .inl (fun _ => 0))), ((u12 6), .inl (cI, 11, .inl (fun _ => 0))), ((u12 7), .inl (cI, 24, .inl (fun _ => 0))), (q13, .inr (2, [.ref (u14 0), .ref (u14 1), .int 0])), ((u14 0), .inl (cI, 8, .inl (fun _ => 0))), ((u14 1), .inl (cI, 8, .inl (fun _ => 0))), (q15, .inr (1, [.int 0, .int 0, .int 0, .int 0])), (q17, .inr (1, [.int 0, .int 0, .int 0, .int 0])), (q19, .inr (1, [.int 0, .int 0, .int 0, .int 0])), (q21, .inr (1, [.int 0, .int 0, .int 0, .int 0])), (q23, .inl (cI, 256, .inl (fun _ => 0))), (q24, .inl (cI, 48, .inl (fun _ => 0))), (q25, .inl (cR, 4, .inr (.inr (.inr (.inr (va_up (fun _ => none) 0 (some q26))))))), (q26, .inr (4, [.int 1, .int 0, .int 0, .ref (u27 0)])), ((u27 0), .inl (cI, 60, .inl (fun _ => 0)))]) hκ dX6_init_186 rfl rfl (by unfold vp_in; decide) rfl ?_
  refine cw_iinc (j := 0) (v := 1) (lv' := [(1, .int 1), (0, .ref h0)]) hκ dX6_init_187 rfl rfl (by decide) rfl ?_
  refine cw_goto (tgt := 169) hκ dX6_init_190 (by decide) ?_
  refine cw_iload_n (j := 0) hκ dX6_init_169 rfl rfl ?_
  refine cw_iconst (v := 4) hκ dX6_init_170 rfl ?_
  refine cw_ge_n (tgt := 193) hκ dX6_init_171 (by decide) (by decide) ?_
  refine cw_aload_n (j := 1) hκ dX6_init_174 rfl rfl ?_
  refine cw_get (j := 13) (v := .ref q25) hκ dX6_init_175 kc_6 (by decide) (sy_mem 336 (by decide +kernel) rfl) rfl ?_
  refine cw_iload_n (j := 0) hκ dX6_init_178 rfl rfl ?_
  refine cw_new (f0 := [.int 0, .int 0, .int 0, .null]) hκ dX6_init_179 kc_4 (sy_mem 299 (by decide +kernel) rfl) jn_4.1 jn_4.2 jf_4 (Nat.le_of_ble_eq_true rfl) (Nat.le_of_ble_eq_true rfl) (fun q28 => ?_)
  refine cw_dup hκ dX6_init_182 ?_
  refine cw_callN (n := 0) (q := q28) (st := [.ref q28, .int 1, .ref q25]) hκ dX6_init_183 c_X4 okN_t trivial hN.2.2.2.2.1 ji_4 jm_4 rfl rfl (by decide) (by decide) (Nat.le_of_ble_eq_true rfl) (Nat.le_of_ble_eq_true rfl) (Nat.le_of_ble_eq_true rfl) rfl (fun u29 => ?_)
  refine cw_w (ws' := [(h0, .inr (6, [.ref q1, .ref q3, .ref q5, .ref q7, .ref q9, .ref q11, .ref q13, .ref q15, .ref q17, .ref q19, .ref q21, .ref q23, .ref q24, .ref q25, .int 0, .int 0, .int 0])), (q1, .inr (5, [.int 0, .int 32, .int 11, .ref (u2 0), .int 0])), ((u2 0), .inl (cI, 47, .inl (fun _ => 0))), (q3, .inr (5, [.int 1, .int 47, .int 16, .ref (u4 0), .int 0])), ((u4 0), .inl (cI, 47, .inl (fun _ => 0))), (q5, .inr (0, [.int 0, .ref (u6 0), .ref (u6 1), .ref (u6 2), .ref (u6 3), .int 0, .ref (u6 4), .ref (u6 5), .ref (u6 6), .int 40, .int 0, .ref (u6 7), .ref (u6 8), .int 0, .int (-1)])), ((u6 0), .inl (cI, 11, .inl (fun _ => 0))), ((u6 1), .inl (cI, 11, .inl (fun _ => 0))), ((u6 2), .inl (cI, 11, .inl (fun _ => 0))), ((u6 3), .inl (cI, 11, .inl (fun _ => 0))), ((u6 4), .inl (cI, 16, .inl (fun _ => 0))), ((u6 5), .inl (cI, 16, .inl (fun _ => 0))), ((u6 6), .inl (cI, 24, .inl (fun _ => 0))), ((u6 7), .inl (cI, 8, .inl (fun _ => 0))), ((u6 8), .inl (cI, 8, .inl (fun _ => 0))), (q7, .inr (0, [.int 0, .ref (u8 0), .ref (u8 1), .ref (u8 2), .ref (u8 3), .int 0, .ref (u8 4), .ref (u8 5), .ref (u8 6), .int 40, .int 0, .ref (u8 7), .ref (u8 8), .int 0, .int (-1)])), ((u8 0), .inl (cI, 11, .inl (fun _ => 0))), ((u8 1), .inl (cI, 11, .inl (fun _ => 0))), ((u8 2), .inl (cI, 11, .inl (fun _ => 0))), ((u8 3), .inl (cI, 11, .inl (fun _ => 0))), ((u8 4), .inl (cI, 16, .inl (fun _ => 0))), ((u8 5), .inl (cI, 16, .inl (fun _ => 0))), ((u8 6), .inl (cI, 24, .inl (fun _ => 0))), ((u8 7), .inl (cI, 8, .inl (fun _ => 0))), ((u8 8), .inl (cI, 8, .inl (fun _ => 0))), (q9, .inr (3, [.ref (u10 0), .ref (u10 1), .ref (u10 2), .ref (u10 3), .ref (u10 4), .ref (u10 5), .ref (u10 6), .int 0, .int 0, .int 0, .int 0, .int 0, .ref (u10 7), .int 0, .int 0, .int 0, .int 0])), ((u10 0), .inl (cI, 24, .inl (fun _ => 0))), ((u10 1), .inl (cI, 24, .inl (fun _ => 0))), ((u10 2), .inl (cI, 24, .inl (fun _ => 0))), ((u10 3), .inl (cI, 16, .inl (fun _ => 0))), ((u10 4), .inl (cI, 11, .inl (fun _ => 0))), ((u10 5), .inl (cI, 11, .inl (fun _ => 0))), ((u10 6), .inl (cI, 11, .inl (fun _ => 0))), ((u10 7), .inl (cI, 24, .inl (fun _ => 0))), (q11, .inr (3, [.ref (u12 0), .ref (u12 1), .ref (u12 2), .ref (u12 3), .ref (u12 4), .ref (u12 5), .ref (u12 6), .int 0, .int 0, .int 0, .int 0, .int 0, .ref (u12 7), .int 0, .int 0, .int 0, .int 0])), ((u12 0), .inl (cI, 24, .inl (fun _ => 0))), ((u12 1), .inl (cI, 24, .inl (fun _ => 0))), ((u12 2), .inl (cI, 24, .inl (fun _ => 0))), ((u12 3), .inl (cI, 16, .inl (fun _ => 0))), ((u12 4), .inl (cI, 11, .inl (fun _ => 0))), ((u12 5), .inl (cI, 11, .inl (fun _ => 0))), ((u12 6), .inl (cI, 11, .inl (fun _ => 0))), ((u12 7), .inl (cI, 24, .inl (fun _ => 0))), (q13, .inr (2, [.ref (u14 0), .ref (u14 1), .int 0])), ((u14 0), .inl (cI, 8, .inl (fun _ => 0))), ((u14 1), .inl (cI, 8, .inl (fun _ => 0))), (q15, .inr (1, [.int 0, .int 0, .int 0, .int 0])), (q17, .inr (1, [.int 0, .int 0, .int 0, .int 0])), (q19, .inr (1, [.int 0, .int 0, .int 0, .int 0])), (q21, .inr (1, [.int 0, .int 0, .int 0, .int 0])), (q23, .inl (cI, 256, .inl (fun _ => 0))), (q24, .inl (cI, 48, .inl (fun _ => 0))), (q25, .inl (cR, 4, .inr (.inr (.inr (.inr (va_up (fun _ => none) 0 (some q26))))))), (q26, .inr (4, [.int 1, .int 0, .int 0, .ref (u27 0)])), ((u27 0), .inl (cI, 60, .inl (fun _ => 0))), (q28, .inr (4, [.int 1, .int 0, .int 0, .ref (u29 0)])), ((u29 0), .inl (cI, 60, .inl (fun _ => 0)))]) rfl ?_
  refine cw_aast (q0 := 52) (qk := 55) (ws' := [(h0, .inr (6, [.ref q1, .ref q3, .ref q5, .ref q7, .ref q9, .ref q11, .ref q13, .ref q15, .ref q17, .ref q19, .ref q21, .ref q23, .ref q24, .ref q25, .int 0, .int 0, .int 0])), (q1, .inr (5, [.int 0, .int 32, .int 11, .ref (u2 0), .int 0])), ((u2 0), .inl (cI, 47, .inl (fun _ => 0))), (q3, .inr (5, [.int 1, .int 47, .int 16, .ref (u4 0), .int 0])), ((u4 0), .inl (cI, 47, .inl (fun _ => 0))), (q5, .inr (0, [.int 0, .ref (u6 0), .ref (u6 1), .ref (u6 2), .ref (u6 3), .int 0, .ref (u6 4), .ref (u6 5), .ref (u6 6), .int 40, .int 0, .ref (u6 7), .ref (u6 8), .int 0, .int (-1)])), ((u6 0), .inl (cI, 11, .inl (fun _ => 0))), ((u6 1), .inl (cI, 11, .inl (fun _ => 0))), ((u6 2), .inl (cI, 11, .inl (fun _ => 0))), ((u6 3), .inl (cI, 11, .inl (fun _ => 0))), ((u6 4), .inl (cI, 16, .inl (fun _ => 0))), ((u6 5), .inl (cI, 16, .inl (fun _ => 0))), ((u6 6), .inl (cI, 24, .inl (fun _ => 0))), ((u6 7), .inl (cI, 8, .inl (fun _ => 0))), ((u6 8), .inl (cI, 8, .inl (fun _ => 0))), (q7, .inr (0, [.int 0, .ref (u8 0), .ref (u8 1), .ref (u8 2), .ref (u8 3), .int 0, .ref (u8 4), .ref (u8 5), .ref (u8 6), .int 40, .int 0, .ref (u8 7), .ref (u8 8), .int 0, .int (-1)])), ((u8 0), .inl (cI, 11, .inl (fun _ => 0))), ((u8 1), .inl (cI, 11, .inl (fun _ => 0))), ((u8 2), .inl (cI, 11, .inl (fun _ => 0))), ((u8 3), .inl (cI, 11, .inl (fun _ => 0))), ((u8 4), .inl (cI, 16, .inl (fun _ => 0))), ((u8 5), .inl (cI, 16, .inl (fun _ => 0))), ((u8 6), .inl (cI, 24, .inl (fun _ => 0))), ((u8 7), .inl (cI, 8, .inl (fun _ => 0))), ((u8 8), .inl (cI, 8, .inl (fun _ => 0))), (q9, .inr (3, [.ref (u10 0), .ref (u10 1), .ref (u10 2), .ref (u10 3), .ref (u10 4), .ref (u10 5), .ref (u10 6), .int 0, .int 0, .int 0, .int 0, .int 0, .ref (u10 7), .int 0, .int 0, .int 0, .int 0])), ((u10 0), .inl (cI, 24, .inl (fun _ => 0))), ((u10 1), .inl (cI, 24, .inl (fun _ => 0))), ((u10 2), .inl (cI, 24, .inl (fun _ => 0))), ((u10 3), .inl (cI, 16, .inl (fun _ => 0))), ((u10 4), .inl (cI, 11, .inl (fun _ => 0))), ((u10 5), .inl (cI, 11, .inl (fun _ => 0))), ((u10 6), .inl (cI, 11, .inl (fun _ => 0))), ((u10 7), .inl (cI, 24, .inl (fun _ => 0))), (q11, .inr (3, [.ref (u12 0), .ref (u12 1), .ref (u12 2), .ref (u12 3), .ref (u12 4), .ref (u12 5), .ref (u12 6), .int 0, .int 0, .int 0, .int 0, .int 0, .ref (u12 7), .int 0, .int 0, .int 0, .int 0])), ((u12 0), .inl (cI, 24, .inl (fun _ => 0))), ((u12 1), .inl (cI, 24, .inl (fun _ => 0))), ((u12 2), .inl (cI, 24, .inl (fun _ => 0))), ((u12 3), .inl (cI, 16, .inl (fun _ => 0))), ((u12 4), .inl (cI, 11, .inl (fun _ => 0))), ((u12 5), .inl (cI, 11, .inl (fun _ => 0))), ((u12 6), .inl (cI, 11, .inl (fun _ => 0))), ((u12 7), .inl (cI, 24, .inl (fun _ => 0))), (q13, .inr (2, [.ref (u14 0), .ref (u14 1), .int 0])), ((u14 0), .inl (cI, 8, .inl (fun _ => 0))), ((u14 1), .inl (cI, 8, .inl (fun _ => 0))), (q15, .inr (1, [.int 0, .int 0, .int 0, .int 0])), (q17, .inr (1, [.int 0, .int 0, .int 0, .int 0])), (q19, .inr (1, [.int 0, .int 0, .int 0, .int 0])), (q21, .inr (1, [.int 0, .int 0, .int 0, .int 0])), (q23, .inl (cI, 256, .inl (fun _ => 0))), (q24, .inl (cI, 48, .inl (fun _ => 0))), (q25, .inl (cR, 4, .inr (.inr (.inr (.inr (va_up (va_up (fun _ => none) 0 (some q26)) 1 (some q28))))))), (q26, .inr (4, [.int 1, .int 0, .int 0, .ref (u27 0)])), ((u27 0), .inl (cI, 60, .inl (fun _ => 0))), (q28, .inr (4, [.int 1, .int 0, .int 0, .ref (u29 0)])), ((u29 0), .inl (cI, 60, .inl (fun _ => 0)))]) hκ dX6_init_186 rfl rfl (by unfold vp_in; decide) rfl ?_
  refine cw_iinc (j := 0) (v := 2) (lv' := [(1, .int 2), (0, .ref h0)]) hκ dX6_init_187 rfl rfl (by decide) rfl ?_
  refine cw_goto (tgt := 169) hκ dX6_init_190 (by decide) ?_
  refine cw_iload_n (j := 0) hκ dX6_init_169 rfl rfl ?_
  refine cw_iconst (v := 4) hκ dX6_init_170 rfl ?_
  refine cw_ge_n (tgt := 193) hκ dX6_init_171 (by decide) (by decide) ?_
  refine cw_aload_n (j := 1) hκ dX6_init_174 rfl rfl ?_
  refine cw_get (j := 13) (v := .ref q25) hκ dX6_init_175 kc_6 (by decide) (sy_mem 336 (by decide +kernel) rfl) rfl ?_
  refine cw_iload_n (j := 0) hκ dX6_init_178 rfl rfl ?_
  refine cw_new (f0 := [.int 0, .int 0, .int 0, .null]) hκ dX6_init_179 kc_4 (sy_mem 299 (by decide +kernel) rfl) jn_4.1 jn_4.2 jf_4 (Nat.le_of_ble_eq_true rfl) (Nat.le_of_ble_eq_true rfl) (fun q30 => ?_)
  refine cw_dup hκ dX6_init_182 ?_
  refine cw_callN (n := 0) (q := q30) (st := [.ref q30, .int 2, .ref q25]) hκ dX6_init_183 c_X4 okN_t trivial hN.2.2.2.2.1 ji_4 jm_4 rfl rfl (by decide) (by decide) (Nat.le_of_ble_eq_true rfl) (Nat.le_of_ble_eq_true rfl) (Nat.le_of_ble_eq_true rfl) rfl (fun u31 => ?_)
  refine cw_w (ws' := [(h0, .inr (6, [.ref q1, .ref q3, .ref q5, .ref q7, .ref q9, .ref q11, .ref q13, .ref q15, .ref q17, .ref q19, .ref q21, .ref q23, .ref q24, .ref q25, .int 0, .int 0, .int 0])), (q1, .inr (5, [.int 0, .int 32, .int 11, .ref (u2 0), .int 0])), ((u2 0), .inl (cI, 47, .inl (fun _ => 0))), (q3, .inr (5, [.int 1, .int 47, .int 16, .ref (u4 0), .int 0])), ((u4 0), .inl (cI, 47, .inl (fun _ => 0))), (q5, .inr (0, [.int 0, .ref (u6 0), .ref (u6 1), .ref (u6 2), .ref (u6 3), .int 0, .ref (u6 4), .ref (u6 5), .ref (u6 6), .int 40, .int 0, .ref (u6 7), .ref (u6 8), .int 0, .int (-1)])), ((u6 0), .inl (cI, 11, .inl (fun _ => 0))), ((u6 1), .inl (cI, 11, .inl (fun _ => 0))), ((u6 2), .inl (cI, 11, .inl (fun _ => 0))), ((u6 3), .inl (cI, 11, .inl (fun _ => 0))), ((u6 4), .inl (cI, 16, .inl (fun _ => 0))), ((u6 5), .inl (cI, 16, .inl (fun _ => 0))), ((u6 6), .inl (cI, 24, .inl (fun _ => 0))), ((u6 7), .inl (cI, 8, .inl (fun _ => 0))), ((u6 8), .inl (cI, 8, .inl (fun _ => 0))), (q7, .inr (0, [.int 0, .ref (u8 0), .ref (u8 1), .ref (u8 2), .ref (u8 3), .int 0, .ref (u8 4), .ref (u8 5), .ref (u8 6), .int 40, .int 0, .ref (u8 7), .ref (u8 8), .int 0, .int (-1)])), ((u8 0), .inl (cI, 11, .inl (fun _ => 0))), ((u8 1), .inl (cI, 11, .inl (fun _ => 0))), ((u8 2), .inl (cI, 11, .inl (fun _ => 0))), ((u8 3), .inl (cI, 11, .inl (fun _ => 0))), ((u8 4), .inl (cI, 16, .inl (fun _ => 0))), ((u8 5), .inl (cI, 16, .inl (fun _ => 0))), ((u8 6), .inl (cI, 24, .inl (fun _ => 0))), ((u8 7), .inl (cI, 8, .inl (fun _ => 0))), ((u8 8), .inl (cI, 8, .inl (fun _ => 0))), (q9, .inr (3, [.ref (u10 0), .ref (u10 1), .ref (u10 2), .ref (u10 3), .ref (u10 4), .ref (u10 5), .ref (u10 6), .int 0, .int 0, .int 0, .int 0, .int 0, .ref (u10 7), .int 0, .int 0, .int 0, .int 0])), ((u10 0), .inl (cI, 24, .inl (fun _ => 0))), ((u10 1), .inl (cI, 24, .inl (fun _ => 0))), ((u10 2), .inl (cI, 24, .inl (fun _ => 0))), ((u10 3), .inl (cI, 16, .inl (fun _ => 0))), ((u10 4), .inl (cI, 11, .inl (fun _ => 0))), ((u10 5), .inl (cI, 11, .inl (fun _ => 0))), ((u10 6), .inl (cI, 11, .inl (fun _ => 0))), ((u10 7), .inl (cI, 24, .inl (fun _ => 0))), (q11, .inr (3, [.ref (u12 0), .ref (u12 1), .ref (u12 2), .ref (u12 3), .ref (u12 4), .ref (u12 5), .ref (u12 6), .int 0, .int 0, .int 0, .int 0, .int 0, .ref (u12 7), .int 0, .int 0, .int 0, .int 0])), ((u12 0), .inl (cI, 24, .inl (fun _ => 0))), ((u12 1), .inl (cI, 24, .inl (fun _ => 0))), ((u12 2), .inl (cI, 24, .inl (fun _ => 0))), ((u12 3), .inl (cI, 16, .inl (fun _ => 0))), ((u12 4), .inl (cI, 11, .inl (fun _ => 0))), ((u12 5), .inl (cI, 11, .inl (fun _ => 0))), ((u12 6), .inl (cI, 11, .inl (fun _ => 0))), ((u12 7), .inl (cI, 24, .inl (fun _ => 0))), (q13, .inr (2, [.ref (u14 0), .ref (u14 1), .int 0])), ((u14 0), .inl (cI, 8, .inl (fun _ => 0))), ((u14 1), .inl (cI, 8, .inl (fun _ => 0))), (q15, .inr (1, [.int 0, .int 0, .int 0, .int 0])), (q17, .inr (1, [.int 0, .int 0, .int 0, .int 0])), (q19, .inr (1, [.int 0, .int 0, .int 0, .int 0])), (q21, .inr (1, [.int 0, .int 0, .int 0, .int 0])), (q23, .inl (cI, 256, .inl (fun _ => 0))), (q24, .inl (cI, 48, .inl (fun _ => 0))), (q25, .inl (cR, 4, .inr (.inr (.inr (.inr (va_up (va_up (fun _ => none) 0 (some q26)) 1 (some q28))))))), (q26, .inr (4, [.int 1, .int 0, .int 0, .ref (u27 0)])), ((u27 0), .inl (cI, 60, .inl (fun _ => 0))), (q28, .inr (4, [.int 1, .int 0, .int 0, .ref (u29 0)])), ((u29 0), .inl (cI, 60, .inl (fun _ => 0))), (q30, .inr (4, [.int 1, .int 0, .int 0, .ref (u31 0)])), ((u31 0), .inl (cI, 60, .inl (fun _ => 0)))]) rfl ?_
  refine cw_aast (q0 := 52) (qk := 57) (ws' := [(h0, .inr (6, [.ref q1, .ref q3, .ref q5, .ref q7, .ref q9, .ref q11, .ref q13, .ref q15, .ref q17, .ref q19, .ref q21, .ref q23, .ref q24, .ref q25, .int 0, .int 0, .int 0])), (q1, .inr (5, [.int 0, .int 32, .int 11, .ref (u2 0), .int 0])), ((u2 0), .inl (cI, 47, .inl (fun _ => 0))), (q3, .inr (5, [.int 1, .int 47, .int 16, .ref (u4 0), .int 0])), ((u4 0), .inl (cI, 47, .inl (fun _ => 0))), (q5, .inr (0, [.int 0, .ref (u6 0), .ref (u6 1), .ref (u6 2), .ref (u6 3), .int 0, .ref (u6 4), .ref (u6 5), .ref (u6 6), .int 40, .int 0, .ref (u6 7), .ref (u6 8), .int 0, .int (-1)])), ((u6 0), .inl (cI, 11, .inl (fun _ => 0))), ((u6 1), .inl (cI, 11, .inl (fun _ => 0))), ((u6 2), .inl (cI, 11, .inl (fun _ => 0))), ((u6 3), .inl (cI, 11, .inl (fun _ => 0))), ((u6 4), .inl (cI, 16, .inl (fun _ => 0))), ((u6 5), .inl (cI, 16, .inl (fun _ => 0))), ((u6 6), .inl (cI, 24, .inl (fun _ => 0))), ((u6 7), .inl (cI, 8, .inl (fun _ => 0))), ((u6 8), .inl (cI, 8, .inl (fun _ => 0))), (q7, .inr (0, [.int 0, .ref (u8 0), .ref (u8 1), .ref (u8 2), .ref (u8 3), .int 0, .ref (u8 4), .ref (u8 5), .ref (u8 6), .int 40, .int 0, .ref (u8 7), .ref (u8 8), .int 0, .int (-1)])), ((u8 0), .inl (cI, 11, .inl (fun _ => 0))), ((u8 1), .inl (cI, 11, .inl (fun _ => 0))), ((u8 2), .inl (cI, 11, .inl (fun _ => 0))), ((u8 3), .inl (cI, 11, .inl (fun _ => 0))), ((u8 4), .inl (cI, 16, .inl (fun _ => 0))), ((u8 5), .inl (cI, 16, .inl (fun _ => 0))), ((u8 6), .inl (cI, 24, .inl (fun _ => 0))), ((u8 7), .inl (cI, 8, .inl (fun _ => 0))), ((u8 8), .inl (cI, 8, .inl (fun _ => 0))), (q9, .inr (3, [.ref (u10 0), .ref (u10 1), .ref (u10 2), .ref (u10 3), .ref (u10 4), .ref (u10 5), .ref (u10 6), .int 0, .int 0, .int 0, .int 0, .int 0, .ref (u10 7), .int 0, .int 0, .int 0, .int 0])), ((u10 0), .inl (cI, 24, .inl (fun _ => 0))), ((u10 1), .inl (cI, 24, .inl (fun _ => 0))), ((u10 2), .inl (cI, 24, .inl (fun _ => 0))), ((u10 3), .inl (cI, 16, .inl (fun _ => 0))), ((u10 4), .inl (cI, 11, .inl (fun _ => 0))), ((u10 5), .inl (cI, 11, .inl (fun _ => 0))), ((u10 6), .inl (cI, 11, .inl (fun _ => 0))), ((u10 7), .inl (cI, 24, .inl (fun _ => 0))), (q11, .inr (3, [.ref (u12 0), .ref (u12 1), .ref (u12 2), .ref (u12 3), .ref (u12 4), .ref (u12 5), .ref (u12 6), .int 0, .int 0, .int 0, .int 0, .int 0, .ref (u12 7), .int 0, .int 0, .int 0, .int 0])), ((u12 0), .inl (cI, 24, .inl (fun _ => 0))), ((u12 1), .inl (cI, 24, .inl (fun _ => 0))), ((u12 2), .inl (cI, 24, .inl (fun _ => 0))), ((u12 3), .inl (cI, 16, .inl (fun _ => 0))), ((u12 4), .inl (cI, 11, .inl (fun _ => 0))), ((u12 5), .inl (cI, 11, .inl (fun _ => 0))), ((u12 6), .inl (cI, 11, .inl (fun _ => 0))), ((u12 7), .inl (cI, 24, .inl (fun _ => 0))), (q13, .inr (2, [.ref (u14 0), .ref (u14 1), .int 0])), ((u14 0), .inl (cI, 8, .inl (fun _ => 0))), ((u14 1), .inl (cI, 8, .inl (fun _ => 0))), (q15, .inr (1, [.int 0, .int 0, .int 0, .int 0])), (q17, .inr (1, [.int 0, .int 0, .int 0, .int 0])), (q19, .inr (1, [.int 0, .int 0, .int 0, .int 0])), (q21, .inr (1, [.int 0, .int 0, .int 0, .int 0])), (q23, .inl (cI, 256, .inl (fun _ => 0))), (q24, .inl (cI, 48, .inl (fun _ => 0))), (q25, .inl (cR, 4, .inr (.inr (.inr (.inr (va_up (va_up (va_up (fun _ => none) 0 (some q26)) 1 (some q28)) 2 (some q30))))))), (q26, .inr (4, [.int 1, .int 0, .int 0, .ref (u27 0)])), ((u27 0), .inl (cI, 60, .inl (fun _ => 0))), (q28, .inr (4, [.int 1, .int 0, .int 0, .ref (u29 0)])), ((u29 0), .inl (cI, 60, .inl (fun _ => 0))), (q30, .inr (4, [.int 1, .int 0, .int 0, .ref (u31 0)])), ((u31 0), .inl (cI, 60, .inl (fun _ => 0)))]) hκ dX6_init_186 rfl rfl (by unfold vp_in; decide) rfl ?_
  refine cw_iinc (j := 0) (v := 3) (lv' := [(1, .int 3), (0, .ref h0)]) hκ dX6_init_187 rfl rfl (by decide) rfl ?_
  refine cw_goto (tgt := 169) hκ dX6_init_190 (by decide) ?_
  refine cw_iload_n (j := 0) hκ dX6_init_169 rfl rfl ?_
  refine cw_iconst (v := 4) hκ dX6_init_170 rfl ?_
  refine cw_ge_n (tgt := 193) hκ dX6_init_171 (by decide) (by decide) ?_
  refine cw_aload_n (j := 1) hκ dX6_init_174 rfl rfl ?_
  refine cw_get (j := 13) (v := .ref q25) hκ dX6_init_175 kc_6 (by decide) (sy_mem 336 (by decide +kernel) rfl) rfl ?_
  refine cw_iload_n (j := 0) hκ dX6_init_178 rfl rfl ?_
  refine cw_new (f0 := [.int 0, .int 0, .int 0, .null]) hκ dX6_init_179 kc_4 (sy_mem 299 (by decide +kernel) rfl) jn_4.1 jn_4.2 jf_4 (Nat.le_of_ble_eq_true rfl) (Nat.le_of_ble_eq_true rfl) (fun q32 => ?_)
  refine cw_dup hκ dX6_init_182 ?_
  refine cw_callN (n := 0) (q := q32) (st := [.ref q32, .int 3, .ref q25]) hκ dX6_init_183 c_X4 okN_t trivial hN.2.2.2.2.1 ji_4 jm_4 rfl rfl (by decide) (by decide) (Nat.le_of_ble_eq_true rfl) (Nat.le_of_ble_eq_true rfl) (Nat.le_of_ble_eq_true rfl) rfl (fun u33 => ?_)
  refine cw_w (ws' := [(h0, .inr (6, [.ref q1, .ref q3, .ref q5, .ref q7, .ref q9, .ref q11, .ref q13, .ref q15, .ref q17, .ref q19, .ref q21, .ref q23, .ref q24, .ref q25, .int 0, .int 0, .int 0])), (q1, .inr (5, [.int 0, .int 32, .int 11, .ref (u2 0), .int 0])), ((u2 0), .inl (cI, 47, .inl (fun _ => 0))), (q3, .inr (5, [.int 1, .int 47, .int 16, .ref (u4 0), .int 0])), ((u4 0), .inl (cI, 47, .inl (fun _ => 0))), (q5, .inr (0, [.int 0, .ref (u6 0), .ref (u6 1), .ref (u6 2), .ref (u6 3), .int 0, .ref (u6 4), .ref (u6 5), .ref (u6 6), .int 40, .int 0, .ref (u6 7), .ref (u6 8), .int 0, .int (-1)])), ((u6 0), .inl (cI, 11, .inl (fun _ => 0))), ((u6 1), .inl (cI, 11, .inl (fun _ => 0))), ((u6 2), .inl (cI, 11, .inl (fun _ => 0))), ((u6 3), .inl (cI, 11, .inl (fun _ => 0))), ((u6 4), .inl (cI, 16, .inl (fun _ => 0))), ((u6 5), .inl (cI, 16, .inl (fun _ => 0))), ((u6 6), .inl (cI, 24, .inl (fun _ => 0))), ((u6 7), .inl (cI, 8, .inl (fun _ => 0))), ((u6 8), .inl (cI, 8, .inl (fun _ => 0))), (q7, .inr (0, [.int 0, .ref (u8 0), .ref (u8 1), .ref (u8 2), .ref (u8 3), .int 0, .ref (u8 4), .ref (u8 5), .ref (u8 6), .int 40, .int 0, .ref (u8 7), .ref (u8 8), .int 0, .int (-1)])), ((u8 0), .inl (cI, 11, .inl (fun _ => 0))), ((u8 1), .inl (cI, 11, .inl (fun _ => 0))), ((u8 2), .inl (cI, 11, .inl (fun _ => 0))), ((u8 3), .inl (cI, 11, .inl (fun _ => 0))), ((u8 4), .inl (cI, 16, .inl (fun _ => 0))), ((u8 5), .inl (cI, 16, .inl (fun _ => 0))), ((u8 6), .inl (cI, 24, .inl (fun _ => 0))), ((u8 7), .inl (cI, 8, .inl (fun _ => 0))), ((u8 8), .inl (cI, 8, .inl (fun _ => 0))), (q9, .inr (3, [.ref (u10 0), .ref (u10 1), .ref (u10 2), .ref (u10 3), .ref (u10 4), .ref (u10 5), .ref (u10 6), .int 0, .int 0, .int 0, .int 0, .int 0, .ref (u10 7), .int 0, .int 0, .int 0, .int 0])), ((u10 0), .inl (cI, 24, .inl (fun _ => 0))), ((u10 1), .inl (cI, 24, .inl (fun _ => 0))), ((u10 2), .inl (cI, 24, .inl (fun _ => 0))), ((u10 3), .inl (cI, 16, .inl (fun _ => 0))), ((u10 4), .inl (cI, 11, .inl (fun _ => 0))), ((u10 5), .inl (cI, 11, .inl (fun _ => 0))), ((u10 6), .inl (cI, 11, .inl (fun _ => 0))), ((u10 7), .inl (cI, 24, .inl (fun _ => 0))), (q11, .inr (3, [.ref (u12 0), .ref (u12 1), .ref (u12 2), .ref (u12 3), .ref (u12 4), .ref (u12 5), .ref (u12 6), .int 0, .int 0, .int 0, .int 0, .int 0, .ref (u12 7), .int 0, .int 0, .int 0, .int 0])), ((u12 0), .inl (cI, 24, .inl (fun _ => 0))), ((u12 1), .inl (cI, 24, .inl (fun _ => 0))), ((u12 2), .inl (cI, 24, .inl (fun _ => 0))), ((u12 3), .inl (cI, 16, .inl (fun _ => 0))), ((u12 4), .inl (cI, 11, .inl (fun _ => 0))), ((u12 5), .inl (cI, 11, .inl (fun _ => 0))), ((u12 6), .inl (cI, 11, .inl (fun _ => 0))), ((u12 7), .inl (cI, 24, .inl (fun _ => 0))), (q13, .inr (2, [.ref (u14 0), .ref (u14 1), .int 0])), ((u14 0), .inl (cI, 8, .inl (fun _ => 0))), ((u14 1), .inl (cI, 8, .inl (fun _ => 0))), (q15, .inr (1, [.int 0, .int 0, .int 0, .int 0])), (q17, .inr (1, [.int 0, .int 0, .int 0, .int 0])), (q19, .inr (1, [.int 0, .int 0, .int 0, .int 0])), (q21, .inr (1, [.int 0, .int 0, .int 0, .int 0])), (q23, .inl (cI, 256, .inl (fun _ => 0))), (q24, .inl (cI, 48, .inl (fun _ => 0))), (q25, .inl (cR, 4, .inr (.inr (.inr (.inr (va_up (va_up (va_up (fun _ => none) 0 (some q26)) 1 (some q28)) 2 (some q30))))))), (q26, .inr (4, [.int 1, .int 0, .int 0, .ref (u27 0)])), ((u27 0), .inl (cI, 60, .inl (fun _ => 0))), (q28, .inr (4, [.int 1, .int 0, .int 0, .ref (u29 0)])), ((u29 0), .inl (cI, 60, .inl (fun _ => 0))), (q30, .inr (4, [.int 1, .int 0, .int 0, .ref (u31 0)])), ((u31 0), .inl (cI, 60, .inl (fun _ => 0))), (q32, .inr (4, [.int 1, .int 0, .int 0, .ref (u33 0)])), ((u33 0), .inl (cI, 60, .inl (fun _ => 0)))]) rfl ?_
  refine cw_aast (q0 := 52) (qk := 59) (ws' := [(h0, .inr (6, [.ref q1, .ref q3, .ref q5, .ref q7, .ref q9, .ref q11, .ref q13, .ref q15, .ref q17, .ref q19, .ref q21, .ref q23, .ref q24, .ref q25, .int 0, .int 0, .int 0])), (q1, .inr (5, [.int 0, .int 32, .int 11, .ref (u2 0), .int 0])), ((u2 0), .inl (cI, 47, .inl (fun _ => 0))), (q3, .inr (5, [.int 1, .int 47, .int 16, .ref (u4 0), .int 0])), ((u4 0), .inl (cI, 47, .inl (fun _ => 0))), (q5, .inr (0, [.int 0, .ref (u6 0), .ref (u6 1), .ref (u6 2), .ref (u6 3), .int 0, .ref (u6 4), .ref (u6 5), .ref (u6 6), .int 40, .int 0, .ref (u6 7), .ref (u6 8), .int 0, .int (-1)])), ((u6 0), .inl (cI, 11, .inl (fun _ => 0))), ((u6 1), .inl (cI, 11, .inl (fun _ => 0))), ((u6 2), .inl (cI, 11, .inl (fun _ => 0))), ((u6 3), .inl (cI, 11, .inl (fun _ => 0))), ((u6 4), .inl (cI, 16, .inl (fun _ => 0))), ((u6 5), .inl (cI, 16, .inl (fun _ => 0))), ((u6 6), .inl (cI, 24, .inl (fun _ => 0))), ((u6 7), .inl (cI, 8, .inl (fun _ => 0))), ((u6 8), .inl (cI, 8, .inl (fun _ => 0))), (q7, .inr (0, [.int 0, .ref (u8 0), .ref (u8 1), .ref (u8 2), .ref (u8 3), .int 0, .ref (u8 4), .ref (u8 5), .ref (u8 6), .int 40, .int 0, .ref (u8 7), .ref (u8 8), .int 0, .int (-1)])), ((u8 0), .inl (cI, 11, .inl (fun _ => 0))), ((u8 1), .inl (cI, 11, .inl (fun _ => 0))), ((u8 2), .inl (cI, 11, .inl (fun _ => 0))), ((u8 3), .inl (cI, 11, .inl (fun _ => 0))), ((u8 4), .inl (cI, 16, .inl (fun _ => 0))), ((u8 5), .inl (cI, 16, .inl (fun _ => 0))), ((u8 6), .inl (cI, 24, .inl (fun _ => 0))), ((u8 7), .inl (cI, 8, .inl (fun _ => 0))), ((u8 8), .inl (cI, 8, .inl (fun _ => 0))), (q9, .inr (3, [.ref (u10 0), .ref (u10 1), .ref (u10 2), .ref (u10 3), .ref (u10 4), .ref (u10 5), .ref (u10 6), .int 0, .int 0, .int 0, .int 0, .int 0, .ref (u10 7), .int 0, .int 0, .int 0, .int 0])), ((u10 0), .inl (cI, 24, .inl (fun _ => 0))), ((u10 1), .inl (cI, 24, .inl (fun _ => 0))), ((u10 2), .inl (cI, 24, .inl (fun _ => 0))), ((u10 3), .inl (cI, 16, .inl (fun _ => 0))), ((u10 4), .inl (cI, 11, .inl (fun _ => 0))), ((u10 5), .inl (cI, 11, .inl (fun _ => 0))), ((u10 6), .inl (cI, 11, .inl (fun _ => 0))), ((u10 7), .inl (cI, 24, .inl (fun _ => 0))), (q11, .inr (3, [.ref (u12 0), .ref (u12 1), .ref (u12 2), .ref (u12 3), .ref (u12 4), .ref (u12 5), .ref (u12 6), .int 0, .int 0, .int 0, .int 0, .int 0, .ref (u12 7), .int 0, .int 0, .int 0, .int 0])), ((u12 0), .inl (cI, 24, .inl (fun _ => 0))), ((u12 1), .inl (cI, 24, .inl (fun _ => 0))), ((u12 2), .inl (cI, 24, .inl (fun _ => 0))), ((u12 3), .inl (cI, 16, .inl (fun _ => 0))), ((u12 4), .inl (cI, 11, .inl (fun _ => 0))), ((u12 5), .inl (cI, 11, .inl (fun _ => 0))), ((u12 6), .inl (cI, 11, .inl (fun _ => 0))), ((u12 7), .inl (cI, 24, .inl (fun _ => 0))), (q13, .inr (2, [.ref (u14 0), .ref (u14 1), .int 0])), ((u14 0), .inl (cI, 8, .inl (fun _ => 0))), ((u14 1), .inl (cI, 8, .inl (fun _ => 0))), (q15, .inr (1, [.int 0, .int 0, .int 0, .int 0])), (q17, .inr (1, [.int 0, .int 0, .int 0, .int 0])), (q19, .inr (1, [.int 0, .int 0, .int 0, .int 0])), (q21, .inr (1, [.int 0, .int 0, .int 0, .int 0])), (q23, .inl (cI, 256, .inl (fun _ => 0))), (q24, .inl (cI, 48, .inl (fun _ => 0))), (q25, .inl (cR, 4, .inr (.inr (.inr (.inr (va_up (va_up (va_up (va_up (fun _ => none) 0 (some q26)) 1 (some q28)) 2 (some q30)) 3 (some q32))))))), (q26, .inr (4, [.int 1, .int 0, .int 0, .ref (u27 0)])), ((u27 0), .inl (cI, 60, .inl (fun _ => 0))), (q28, .inr (4, [.int 1, .int 0, .int 0, .ref (u29 0)])), ((u29 0), .inl (cI, 60, .inl (fun _ => 0))), (q30, .inr (4, [.int 1, .int 0, .int 0, .ref (u31 0)])), ((u31 0), .inl (cI, 60, .inl (fun _ => 0))), (q32, .inr (4, [.int 1, .int 0, .int 0, .ref (u33 0)])), ((u33 0), .inl (cI, 60, .inl (fun _ => 0)))]) hκ dX6_init_186 rfl rfl (by unfold vp_in; decide) rfl ?_
  refine cw_iinc (j := 0) (v := 4) (lv' := [(1, .int 4), (0, .ref h0)]) hκ dX6_init_187 rfl rfl (by decide) rfl ?_
  refine cw_goto (tgt := 169) hκ dX6_init_190 (by decide) ?_
  refine cw_iload_n (j := 0) hκ dX6_init_169 rfl rfl ?_
  refine cw_iconst (v := 4) hκ dX6_init_170 rfl ?_
  refine cw_ge_y (tgt := 193) hκ dX6_init_171 (by decide) (by decide) ?_
  exact hret (fun k => ([q1, (u2 0), q3, (u4 0), q5, (u6 0), (u6 1), (u6 2), (u6 3), (u6 4), (u6 5), (u6 6), (u6 7), (u6 8), q7, (u8 0), (u8 1), (u8 2), (u8 3), (u8 4), (u8 5), (u8 6), (u8 7), (u8 8), q9, (u10 0), (u10 1), (u10 2), (u10 3), (u10 4), (u10 5), (u10 6), (u10 7), q11, (u12 0), (u12 1), (u12 2), (u12 3), (u12 4), (u12 5), (u12 6), (u12 7), q13, (u14 0), (u14 1), q15, q17, q19, q21, q23, q24, q25, q26, (u27 0), q28, (u29 0), q30, (u31 0), q32, (u33 0)] : List Nat).getD k 0) _ _ dX6_init_193
