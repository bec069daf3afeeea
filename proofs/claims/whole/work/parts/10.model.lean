-- BreathBandModel.in(JJJ)Z, depth 0
def m7_in (a1 : Int64) (a2 : Int64) (a3 : Int64) (σ : St) : Option (Int32 × St) := if (lg_cmp a1 a2) < 0 then (sy_zg 0 (some (0, σ))) else (if 0 < (lg_cmp a1 a3) then (sy_zg 0 (some (0, σ))) else (sy_zg 1 (some (1, σ))))
set_option maxRecDepth 100000 in
set_option maxHeartbeats 4000000 in
theorem m7_in_ok (a1 : Int64) (a2 : Int64) (a3 : Int64) (σ : St) : Cok sy_vi yX7_in cX7_in 6 (some .boolean) 0 [.long a1, .long a2, .long a3] σ (m7_in a1 a2 a3 σ) := by
  refine cok_of (own := RX7) (by decide) rfl (fun ad => Nat.le_of_ble_eq_true rfl) (fun κ hκ => ?_)
  show Ab sy_vi κ 0 [sy_vl a1, none, sy_vl a2, none, sy_vl a3, none] [] σ (m7_in a1 a2 a3 σ)
  unfold m7_in
  refine ab_lload_n hκ dX7_in_0 rfl ?_
  refine ab_lload_n hκ dX7_in_1 rfl ?_
  refine ab_lcmp hκ dX7_in_2 ?_
  refine ab_if_lt (tgt := 17) hκ dX7_in_3 rfl ?_ ?_
  · refine ab_iconst (v := 0) hκ dX7_in_17 rfl ?_
    exact ab_zret hκ dX7_in_18
  · refine ab_lload_n hκ dX7_in_6 rfl ?_
    refine ab_lload hκ dX7_in_7 rfl ?_
    refine ab_lcmp hκ dX7_in_9 ?_
    refine ab_if_gt (tgt := 17) hκ dX7_in_10 rfl ?_ ?_
    · refine ab_iconst (v := 0) hκ dX7_in_17 rfl ?_
      exact ab_zret hκ dX7_in_18
    · refine ab_iconst (v := 1) hκ dX7_in_13 rfl ?_
      refine ab_goto (tgt := 18) hκ dX7_in_14 rfl ?_
      exact ab_zret hκ dX7_in_18
-- BreathBandModel.isTwo(I)Z, depth 1
def m7_isTwo (a1 : Int32) (σ : St) : Option (Int32 × St) := sy_bd (m7_in (Int32.toInt64 a1) 0 1 σ) (fun r2 σ1 => sy_zg r2 (some (r2, σ1)))
set_option maxRecDepth 100000 in
set_option maxHeartbeats 4000000 in
theorem m7_isTwo_ok (a1 : Int32) (σ : St) : Cok sy_vi yX7_isTwo cX7_isTwo 1 (some .boolean) 1 [.int a1] σ (m7_isTwo a1 σ) := by
  refine cok_of (own := RX7) (by decide) rfl (fun ad => Nat.le_of_ble_eq_true rfl) (fun κ hκ => ?_)
  show Ab sy_vi κ 0 [sy_vi a1] [] σ (m7_isTwo a1 σ)
  unfold m7_isTwo
  refine ab_iload_n hκ dX7_isTwo_0 rfl ?_
  refine ab_i2l hκ dX7_isTwo_1 ?_
  refine ab_lconst (v := 0) hκ dX7_isTwo_2 rfl ?_
  refine ab_lconst (v := 1) hκ dX7_isTwo_3 rfl ?_
  refine ab_cSi (vs := [.long (Int32.toInt64 a1), .long 0, .long 1]) (st := []) hκ dX7_isTwo_4 kl_RX7_76 ki_X7_in kv_X7_in (m7_in_ok (Int32.toInt64 a1) 0 1 σ) rfl (by decide) (Nat.le_of_ble_eq_true rfl) rfl (fun r2 σ1 => ?_)
  exact ab_zret hκ dX7_isTwo_7
-- BreathBandModel.type(II)I, depth 2
def m7_type_J39 (x5 : Int32) (x6 : Int32) (x7 : Int32) (x8 : Int32)  (σ : St) : Option (Int32 × St) := if x8 = x7 then (some ((-4), σ)) else (sy_gd x5 2 (sy_gd ((48 * x5) + (σ 67 (sy_ix x5))) 96 (sy_lt (sy_sf σ 66 (sy_ix ((48 * x5) + (σ 67 (sy_ix x5)))) x6) (fun σ9 => sy_gd x5 2 (sy_gd x5 2 (sy_lt (sy_sf σ9 67 (sy_ix x5) ((σ9 67 (sy_ix x5)) + 1)) (fun σ10 => sy_gd x5 2 (some ((σ10 67 (sy_ix x5)), σ10)))))))))
set_option maxRecDepth 100000 in
set_option maxHeartbeats 4000000 in
theorem m7_type_J39_ok {κ : Kx} (hκ : Gd κ cX7_type 3 RX7 (some .int) 2) (x5 : Int32) (x6 : Int32) (x7 : Int32) (x8 : Int32) (σ : St) : Ab sy_vi κ 39 [sy_vr 61, sy_vi x5, sy_vi x6] [.int x7, .int x8] σ (m7_type_J39 x5 x6 x7 x8 σ) := by
  unfold m7_type_J39
  refine ab_icmp_ne (tgt := 45) hκ dX7_type_39 rfl ?_ ?_
  · refine ab_aload_n hκ dX7_type_45 rfl ?_
    refine ab_getf (v := .ref 66) hκ (sy_o7 rfl) kf_RX7_22 rfl dX7_type_46 rfl ?_
    refine ab_bipush (v := 48) hκ dX7_type_49 rfl ?_
    refine ab_iload_n hκ dX7_type_51 rfl ?_
    refine ab_imul hκ dX7_type_52 ?_
    refine ab_aload_n hκ dX7_type_53 rfl ?_
    refine ab_getf (v := .ref 67) hκ (sy_o7 rfl) kf_RX7_25 rfl dX7_type_54 rfl ?_
    refine ab_iload_n hκ dX7_type_57 rfl ?_
    refine ab_iald hκ rfl dX7_type_58 ?_
    refine ab_iadd hκ dX7_type_59 ?_
    refine ab_iload_n hκ dX7_type_60 rfl ?_
    refine ab_iast hκ rfl dX7_type_61 ?_
    refine ab_lts (fun σ9 => ?_)
    refine ab_aload_n hκ dX7_type_62 rfl ?_
    refine ab_getf (v := .ref 67) hκ (sy_o7 rfl) kf_RX7_25 rfl dX7_type_63 rfl ?_
    refine ab_iload_n hκ dX7_type_66 rfl ?_
    refine ab_dup2 hκ dX7_type_67 ?_
    refine ab_iald hκ rfl dX7_type_68 ?_
    refine ab_iconst (v := 1) hκ dX7_type_69 rfl ?_
    refine ab_iadd hκ dX7_type_70 ?_
    refine ab_iast hκ rfl dX7_type_71 ?_
    refine ab_lts (fun σ10 => ?_)
    refine ab_aload_n hκ dX7_type_72 rfl ?_
    refine ab_getf (v := .ref 67) hκ (sy_o7 rfl) kf_RX7_25 rfl dX7_type_73 rfl ?_
    refine ab_iload_n hκ dX7_type_76 rfl ?_
    refine ab_iald hκ rfl dX7_type_77 ?_
    exact ab_iret hκ dX7_type_78
  · refine ab_bipush (v := (-4)) hκ dX7_type_42 rfl ?_
    exact ab_iret hκ dX7_type_44
def m7_type (a1 : Int32) (a2 : Int32) (σ : St) : Option (Int32 × St) := sy_bd (m7_isTwo a1 σ) (fun r2 σ1 => if r2 = 0 then (some ((-2), σ1)) else (sy_bd (m7_in (Int32.toInt64 a2) 0 255 σ1) (fun r4 σ3 => if r4 = 0 then (some ((-2), σ3)) else (sy_gd a1 2 (if a1 = 0 then (m7_type_J39 a1 a2 32 (σ3 67 (sy_ix a1)) σ3) else (m7_type_J39 a1 a2 47 (σ3 67 (sy_ix a1)) σ3))))))
set_option maxRecDepth 100000 in
set_option maxHeartbeats 4000000 in
theorem m7_type_ok (a1 : Int32) (a2 : Int32) (σ : St) : Cok sy_vi yX7_type cX7_type 3 (some .int) 2 [.ref 61, .int a1, .int a2] σ (m7_type a1 a2 σ) := by
  refine cok_of (own := RX7) (by decide) rfl (fun ad => Nat.le_of_ble_eq_true rfl) (fun κ hκ => ?_)
  show Ab sy_vi κ 0 [sy_vr 61, sy_vi a1, sy_vi a2] [] σ (m7_type a1 a2 σ)
  unfold m7_type
  refine ab_iload_n hκ dX7_type_0 rfl ?_
  refine ab_cSi (vs := [.int a1]) (st := []) hκ dX7_type_1 kl_RX7_104 ki_X7_isTwo kv_X7_isTwo (m7_isTwo_ok a1 σ) rfl (by decide) (Nat.le_of_ble_eq_true rfl) rfl (fun r2 σ1 => ?_)
  refine ab_if_eq (tgt := 19) hκ dX7_type_4 rfl ?_ ?_
  · refine ab_bipush (v := (-2)) hκ dX7_type_19 rfl ?_
    exact ab_iret hκ dX7_type_21
  · refine ab_iload_n hκ dX7_type_7 rfl ?_
    refine ab_i2l hκ dX7_type_8 ?_
    refine ab_lconst (v := 0) hκ dX7_type_9 rfl ?_
    refine ab_ldc2 hκ dX7_type_10 kn_RX7_107 ?_
    refine ab_cSi (vs := [.long (Int32.toInt64 a2), .long 0, .long 255]) (st := []) hκ dX7_type_13 kl_RX7_76 ki_X7_in kv_X7_in (m7_in_ok (Int32.toInt64 a2) 0 255 σ1) rfl (by decide) (Nat.le_of_ble_eq_true rfl) rfl (fun r4 σ3 => ?_)
    refine ab_if_ne (tgt := 22) hκ dX7_type_16 rfl ?_ ?_
    · refine ab_aload_n hκ dX7_type_22 rfl ?_
      refine ab_getf (v := .ref 67) hκ (sy_o7 rfl) kf_RX7_25 rfl dX7_type_23 rfl ?_
      refine ab_iload_n hκ dX7_type_26 rfl ?_
      refine ab_iald hκ rfl dX7_type_27 ?_
      refine ab_iload_n hκ dX7_type_28 rfl ?_
      refine ab_if_ne (tgt := 37) hκ dX7_type_29 rfl ?_ ?_
      · refine ab_bipush (v := 47) hκ dX7_type_37 rfl ?_
        exact m7_type_J39_ok hκ a1 a2 47 (σ3 67 (sy_ix a1)) σ3
      · refine ab_bipush (v := 32) hκ dX7_type_32 rfl ?_
        refine ab_goto (tgt := 39) hκ dX7_type_34 rfl ?_
        exact m7_type_J39_ok hκ a1 a2 32 (σ3 67 (sy_ix a1)) σ3
    · refine ab_bipush (v := (-2)) hκ dX7_type_19 rfl ?_
      exact ab_iret hκ dX7_type_21
-- BreathBandModel.wipe(I)I, depth 2
def m7_wipe (a1 : Int32) (σ : St) : Option (Int32 × St) := sy_bd (m7_isTwo a1 σ) (fun r2 σ1 => if r2 = 0 then (some ((-2), σ1)) else (sy_gd a1 2 (sy_lt (σ1 67 (sy_ix a1)) (fun v3 => sy_gd a1 2 (sy_lt (sy_sf σ1 67 (sy_ix a1) 0) (fun σ4 => some (v3, σ4)))))))
set_option maxRecDepth 100000 in
set_option maxHeartbeats 4000000 in
theorem m7_wipe_ok (a1 : Int32) (σ : St) : Cok sy_vi yX7_wipe cX7_wipe 3 (some .int) 2 [.ref 61, .int a1] σ (m7_wipe a1 σ) := by
  refine cok_of (own := RX7) (by decide) rfl (fun ad => Nat.le_of_ble_eq_true rfl) (fun κ hκ => ?_)
  show Ab sy_vi κ 0 [sy_vr 61, sy_vi a1, none] [] σ (m7_wipe a1 σ)
  unfold m7_wipe
  refine ab_iload_n hκ dX7_wipe_0 rfl ?_
  refine ab_cSi (vs := [.int a1]) (st := []) hκ dX7_wipe_1 kl_RX7_104 ki_X7_isTwo kv_X7_isTwo (m7_isTwo_ok a1 σ) rfl (by decide) (Nat.le_of_ble_eq_true rfl) rfl (fun r2 σ1 => ?_)
  refine ab_if_ne (tgt := 10) hκ dX7_wipe_4 rfl ?_ ?_
  · refine ab_aload_n hκ dX7_wipe_10 rfl ?_
    refine ab_getf (v := .ref 67) hκ (sy_o7 rfl) kf_RX7_25 rfl dX7_wipe_11 rfl ?_
    refine ab_iload_n hκ dX7_wipe_14 rfl ?_
    refine ab_iald hκ rfl dX7_wipe_15 ?_
    refine ab_lti (fun v3 => ?_)
    refine ab_istore_n (lv' := [sy_vr 61, sy_vi a1, sy_vi v3]) hκ dX7_wipe_16 rfl (by decide) rfl ?_
    refine ab_aload_n hκ dX7_wipe_17 rfl ?_
    refine ab_getf (v := .ref 67) hκ (sy_o7 rfl) kf_RX7_25 rfl dX7_wipe_18 rfl ?_
    refine ab_iload_n hκ dX7_wipe_21 rfl ?_
    refine ab_iconst (v := 0) hκ dX7_wipe_22 rfl ?_
    refine ab_iast hκ rfl dX7_wipe_23 ?_
    refine ab_lts (fun σ4 => ?_)
    refine ab_iload_n hκ dX7_wipe_24 rfl ?_
    exact ab_iret hκ dX7_wipe_25
  · refine ab_bipush (v := (-2)) hκ dX7_wipe_7 rfl ?_
    exact ab_iret hκ dX7_wipe_9
-- BreathBandModel.undo(I)I, depth 2
def m7_undo (a1 : Int32) (σ : St) : Option (Int32 × St) := sy_bd (m7_isTwo a1 σ) (fun r2 σ1 => if r2 = 0 then (some ((-2), σ1)) else (sy_gd a1 2 (if (σ1 67 (sy_ix a1)) = 0 then (some ((-3), σ1)) else (sy_gd a1 2 (sy_gd a1 2 (sy_lt (sy_sf σ1 67 (sy_ix a1) ((σ1 67 (sy_ix a1)) - 1)) (fun σ3 => sy_gd a1 2 (some ((σ3 67 (sy_ix a1)), σ3)))))))))
set_option maxRecDepth 100000 in
set_option maxHeartbeats 4000000 in
theorem m7_undo_ok (a1 : Int32) (σ : St) : Cok sy_vi yX7_undo cX7_undo 2 (some .int) 2 [.ref 61, .int a1] σ (m7_undo a1 σ) := by
  refine cok_of (own := RX7) (by decide) rfl (fun ad => Nat.le_of_ble_eq_true rfl) (fun κ hκ => ?_)
  show Ab sy_vi κ 0 [sy_vr 61, sy_vi a1] [] σ (m7_undo a1 σ)
  unfold m7_undo
  refine ab_iload_n hκ dX7_undo_0 rfl ?_
  refine ab_cSi (vs := [.int a1]) (st := []) hκ dX7_undo_1 kl_RX7_104 ki_X7_isTwo kv_X7_isTwo (m7_isTwo_ok a1 σ) rfl (by decide) (Nat.le_of_ble_eq_true rfl) rfl (fun r2 σ1 => ?_)
  refine ab_if_ne (tgt := 10) hκ dX7_undo_4 rfl ?_ ?_
  · refine ab_aload_n hκ dX7_undo_10 rfl ?_
    refine ab_getf (v := .ref 67) hκ (sy_o7 rfl) kf_RX7_25 rfl dX7_undo_11 rfl ?_
    refine ab_iload_n hκ dX7_undo_14 rfl ?_
    refine ab_iald hκ rfl dX7_undo_15 ?_
    refine ab_if_ne (tgt := 22) hκ dX7_undo_16 rfl ?_ ?_
    · refine ab_aload_n hκ dX7_undo_22 rfl ?_
      refine ab_getf (v := .ref 67) hκ (sy_o7 rfl) kf_RX7_25 rfl dX7_undo_23 rfl ?_
      refine ab_iload_n hκ dX7_undo_26 rfl ?_
      refine ab_dup2 hκ dX7_undo_27 ?_
      refine ab_iald hκ rfl dX7_undo_28 ?_
      refine ab_iconst (v := 1) hκ dX7_undo_29 rfl ?_
      refine ab_isub hκ dX7_undo_30 ?_
      refine ab_iast hκ rfl dX7_undo_31 ?_
      refine ab_lts (fun σ3 => ?_)
      refine ab_aload_n hκ dX7_undo_32 rfl ?_
      refine ab_getf (v := .ref 67) hκ (sy_o7 rfl) kf_RX7_25 rfl dX7_undo_33 rfl ?_
      refine ab_iload_n hκ dX7_undo_36 rfl ?_
      refine ab_iald hκ rfl dX7_undo_37 ?_
      exact ab_iret hκ dX7_undo_38
    · refine ab_bipush (v := (-3)) hκ dX7_undo_19 rfl ?_
      exact ab_iret hκ dX7_undo_21
  · refine ab_bipush (v := (-2)) hκ dX7_undo_7 rfl ?_
    exact ab_iret hκ dX7_undo_9
-- BreathBandModel.playerOf(II)I, depth 1
def m7_playerOf (a1 : Int32) (a2 : Int32) (σ : St) : Option (Int32 × St) := if a1 = 0 then (if a2 = 116 then (some (0, σ)) else (if a2 = 104 then (some (1, σ)) else (if a2 = 99 then (some (2, σ)) else (some ((-9), σ))))) else (if a1 = 1 then (sy_bd (m7_in (Int32.toInt64 a2) 48 51 σ) (fun r2 σ1 => if r2 = 0 then (some ((-9), σ1)) else (some ((a2 - 48), σ1)))) else (if a2 = 59 then (some (0, σ)) else (some ((-9), σ))))
set_option maxRecDepth 100000 in
set_option maxHeartbeats 4000000 in
theorem m7_playerOf_ok (a1 : Int32) (a2 : Int32) (σ : St) : Cok sy_vi yX7_playerOf cX7_playerOf 2 (some .int) 1 [.int a1, .int a2] σ (m7_playerOf a1 a2 σ) := by
  refine cok_of (own := RX7) (by decide) rfl (fun ad => Nat.le_of_ble_eq_true rfl) (fun κ hκ => ?_)
  show Ab sy_vi κ 0 [sy_vi a1, sy_vi a2] [] σ (m7_playerOf a1 a2 σ)
  unfold m7_playerOf
  refine ab_iload_n hκ dX7_playerOf_0 rfl ?_
  refine ab_if_ne (tgt := 37) hκ dX7_playerOf_1 rfl ?_ ?_
  · refine ab_iload_n hκ dX7_playerOf_37 rfl ?_
    refine ab_iconst (v := 1) hκ dX7_playerOf_38 rfl ?_
    refine ab_icmp_ne (tgt := 68) hκ dX7_playerOf_39 rfl ?_ ?_
    · refine ab_iload_n hκ dX7_playerOf_68 rfl ?_
      refine ab_bipush (v := 59) hκ dX7_playerOf_69 rfl ?_
      refine ab_icmp_ne (tgt := 78) hκ dX7_playerOf_71 rfl ?_ ?_
      · refine ab_bipush (v := (-9)) hκ dX7_playerOf_78 rfl ?_
        exact ab_iret hκ dX7_playerOf_80
      · refine ab_iconst (v := 0) hκ dX7_playerOf_74 rfl ?_
        refine ab_goto (tgt := 80) hκ dX7_playerOf_75 rfl ?_
        exact ab_iret hκ dX7_playerOf_80
    · refine ab_iload_n hκ dX7_playerOf_42 rfl ?_
      refine ab_i2l hκ dX7_playerOf_43 ?_
      refine ab_ldc2 hκ dX7_playerOf_44 kn_RX7_109 ?_
      refine ab_ldc2 hκ dX7_playerOf_47 kn_RX7_111 ?_
      refine ab_cSi (vs := [.long (Int32.toInt64 a2), .long 48, .long 51]) (st := []) hκ dX7_playerOf_50 kl_RX7_76 ki_X7_in kv_X7_in (m7_in_ok (Int32.toInt64 a2) 48 51 σ) rfl (by decide) (Nat.le_of_ble_eq_true rfl) rfl (fun r2 σ1 => ?_)
      refine ab_if_eq (tgt := 63) hκ dX7_playerOf_53 rfl ?_ ?_
      · refine ab_bipush (v := (-9)) hκ dX7_playerOf_63 rfl ?_
        refine ab_goto (tgt := 80) hκ dX7_playerOf_65 rfl ?_
        exact ab_iret hκ dX7_playerOf_80
      · refine ab_iload_n hκ dX7_playerOf_56 rfl ?_
        refine ab_bipush (v := 48) hκ dX7_playerOf_57 rfl ?_
        refine ab_isub hκ dX7_playerOf_59 ?_
        refine ab_goto (tgt := 80) hκ dX7_playerOf_60 rfl ?_
        exact ab_iret hκ dX7_playerOf_80
  · refine ab_iload_n hκ dX7_playerOf_4 rfl ?_
    refine ab_bipush (v := 116) hκ dX7_playerOf_5 rfl ?_
    refine ab_icmp_ne (tgt := 14) hκ dX7_playerOf_7 rfl ?_ ?_
    · refine ab_iload_n hκ dX7_playerOf_14 rfl ?_
      refine ab_bipush (v := 104) hκ dX7_playerOf_15 rfl ?_
      refine ab_icmp_ne (tgt := 24) hκ dX7_playerOf_17 rfl ?_ ?_
      · refine ab_iload_n hκ dX7_playerOf_24 rfl ?_
        refine ab_bipush (v := 99) hκ dX7_playerOf_25 rfl ?_
        refine ab_icmp_ne (tgt := 34) hκ dX7_playerOf_27 rfl ?_ ?_
        · refine ab_bipush (v := (-9)) hκ dX7_playerOf_34 rfl ?_
          exact ab_iret hκ dX7_playerOf_36
        · refine ab_iconst (v := 2) hκ dX7_playerOf_30 rfl ?_
          refine ab_goto (tgt := 36) hκ dX7_playerOf_31 rfl ?_
          exact ab_iret hκ dX7_playerOf_36
      · refine ab_iconst (v := 1) hκ dX7_playerOf_20 rfl ?_
        refine ab_goto (tgt := 36) hκ dX7_playerOf_21 rfl ?_
        exact ab_iret hκ dX7_playerOf_36
    · refine ab_iconst (v := 0) hκ dX7_playerOf_10 rfl ?_
      refine ab_goto (tgt := 36) hκ dX7_playerOf_11 rfl ?_
      exact ab_iret hκ dX7_playerOf_36
-- BreathBandModel.readsPlayers()I, depth 2
def m7_readsPlayers_J68 (K14 : Int32 → Int32 → St → Option (Int32 × St)) (E14_42 : Int32 → St → Option (Int32 × St)) (E14_93 : Int32 → St → Option (Int32 × St)) (x8 : Int32) (x9 : Int32) (x10 : Int32)  (σ : St) : Option (Int32 × St) := if x10 = 1 then (sy_lt (sy_sf σ 61 7 ((σ 61 7) + 1)) (fun σ12 => K14 x8 (x9 + 1) σ12)) else (sy_lt (sy_sf σ 61 7 ((σ 61 7) + 0)) (fun σ11 => K14 x8 (x9 + 1) σ11))
set_option maxRecDepth 100000 in
set_option maxHeartbeats 4000000 in
theorem m7_readsPlayers_J68_ok {κ : Kx} (hκ : Gd κ cX7_readsPlayers 5 RX7 (some .int) 2) {K14 : Int32 → Int32 → St → Option (Int32 × St)} (hK14 : ∀ (x3 : Int32) (x4 : Int32) (σ : St), Ab sy_vi κ 14 [sy_vr 61, sy_vi x3, sy_vi x4, none, none] [] σ (K14 x3 x4 σ)) {E14_42 : Int32 → St → Option (Int32 × St)} (hE14_42 : ∀ (y2 : Int32) (σ : St), Ab sy_vi κ 42 [sy_vr 61, none, sy_vi y2, none, none] [] σ (E14_42 y2 σ)) {E14_93 : Int32 → St → Option (Int32 × St)} (hE14_93 : ∀ (y1 : Int32) (σ : St), Ab sy_vi κ 93 [sy_vr 61, sy_vi y1, none, none, none] [] σ (E14_93 y1 σ)) (x8 : Int32) (x9 : Int32) (x10 : Int32) (σ : St) : Ab sy_vi κ 68 [sy_vr 61, sy_vi x8, sy_vi x9, sy_vi x10, none] [] σ (m7_readsPlayers_J68 K14 E14_42 E14_93 x8 x9 x10 σ) := by
  unfold m7_readsPlayers_J68
  refine ab_aload_n hκ dX7_readsPlayers_68 rfl ?_
  refine ab_dupa hκ dX7_readsPlayers_69 ?_
  refine ab_getf (v := .int (σ 61 7)) hκ (sy_o7 rfl) kf_RX7_113 rfl dX7_readsPlayers_70 rfl ?_
  refine ab_iload_n hκ dX7_readsPlayers_73 rfl ?_
  refine ab_iconst (v := 1) hκ dX7_readsPlayers_74 rfl ?_
  refine ab_icmp_ne (tgt := 82) hκ dX7_readsPlayers_75 rfl ?_ ?_
  · refine ab_iconst (v := 0) hκ dX7_readsPlayers_82 rfl ?_
    refine ab_iadd hκ dX7_readsPlayers_83 ?_
    refine ab_putf hκ (sy_o7 rfl) kp_RX7_113 rfl dX7_readsPlayers_84 ?_
    refine ab_lts (fun σ11 => ?_)
    refine ab_iinc (v := (x9 + 1)) (lv' := [sy_vr 61, sy_vi x8, sy_vi (x9 + 1), sy_vi x10, none]) hκ dX7_readsPlayers_87 rfl rfl (by decide) rfl ?_
    refine ab_goto (tgt := 14) hκ dX7_readsPlayers_90 rfl ?_
    refine ab_fg (lv' := [sy_vr 61, sy_vi x8, sy_vi (x9 + 1), none, none]) [3] rfl ?_
    exact hK14 x8 (x9 + 1) σ11
  · refine ab_iconst (v := 1) hκ dX7_readsPlayers_78 rfl ?_
    refine ab_goto (tgt := 83) hκ dX7_readsPlayers_79 rfl ?_
    refine ab_iadd hκ dX7_readsPlayers_83 ?_
    refine ab_putf hκ (sy_o7 rfl) kp_RX7_113 rfl dX7_readsPlayers_84 ?_
    refine ab_lts (fun σ12 => ?_)
    refine ab_iinc (v := (x9 + 1)) (lv' := [sy_vr 61, sy_vi x8, sy_vi (x9 + 1), sy_vi x10, none]) hκ dX7_readsPlayers_87 rfl rfl (by decide) rfl ?_
    refine ab_goto (tgt := 14) hκ dX7_readsPlayers_90 rfl ?_
    refine ab_fg (lv' := [sy_vr 61, sy_vi x8, sy_vi (x9 + 1), none, none]) [3] rfl ?_
    exact hK14 x8 (x9 + 1) σ12
def m7_readsPlayers_L14b (K14 : Int32 → Int32 → St → Option (Int32 × St)) (E14_42 : Int32 → St → Option (Int32 × St)) (E14_93 : Int32 → St → Option (Int32 × St)) (x3 : Int32) (x4 : Int32) (σ : St) : Option (Int32 × St) := if x3 ≤ x4 then (E14_93 x3 σ) else (sy_dv 3 (sy_lt (x4 - x4 / 3 * 3) (fun v5 => sy_gd x4 96 (sy_bd (m7_playerOf v5 (σ 66 (sy_ix x4)) σ) (fun r7 σ6 => if r7 = (-9) then (E14_42 x4 σ6) else (if 2 ≤ v5 then (m7_readsPlayers_J68 K14 E14_42 E14_93 x3 x4 v5 σ6) else (sy_dv 3 (sy_gd ((2 * (x4 / 3)) + v5) 22 (sy_lt (sy_sf σ6 68 (sy_ix ((2 * (x4 / 3)) + v5)) r7) (fun σ13 => m7_readsPlayers_J68 K14 E14_42 E14_93 x3 x4 v5 σ13))))))))))
def m7_readsPlayers_L14 (E14_42 : Int32 → St → Option (Int32 × St)) (E14_93 : Int32 → St → Option (Int32 × St)) : Nat → Int32 → Int32 → St → Option (Int32 × St)
  | 0 => fun _ _ _ => none
  | n + 1 => m7_readsPlayers_L14b  (m7_readsPlayers_L14  E14_42 E14_93 n) E14_42 E14_93
set_option maxRecDepth 100000 in
set_option maxHeartbeats 4000000 in
theorem m7_readsPlayers_L14b_ok {κ : Kx} (hκ : Gd κ cX7_readsPlayers 5 RX7 (some .int) 2) {K14 : Int32 → Int32 → St → Option (Int32 × St)} (hK14 : ∀ (x3 : Int32) (x4 : Int32) (σ : St), Ab sy_vi κ 14 [sy_vr 61, sy_vi x3, sy_vi x4, none, none] [] σ (K14 x3 x4 σ)) {E14_42 : Int32 → St → Option (Int32 × St)} (hE14_42 : ∀ (y2 : Int32) (σ : St), Ab sy_vi κ 42 [sy_vr 61, none, sy_vi y2, none, none] [] σ (E14_42 y2 σ)) {E14_93 : Int32 → St → Option (Int32 × St)} (hE14_93 : ∀ (y1 : Int32) (σ : St), Ab sy_vi κ 93 [sy_vr 61, sy_vi y1, none, none, none] [] σ (E14_93 y1 σ)) (x3 : Int32) (x4 : Int32) (σ : St) : Ab sy_vi κ 14 [sy_vr 61, sy_vi x3, sy_vi x4, none, none] [] σ (m7_readsPlayers_L14b  K14 E14_42 E14_93 x3 x4 σ) := by
  unfold m7_readsPlayers_L14b
  refine ab_iload_n hκ dX7_readsPlayers_14 rfl ?_
  refine ab_iload_n hκ dX7_readsPlayers_15 rfl ?_
  refine ab_icmp_ge (tgt := 93) hκ dX7_readsPlayers_16 rfl ?_ ?_
  · refine ab_fg (lv' := [sy_vr 61, sy_vi x3, none, none, none]) [2] rfl ?_
    exact hE14_93 x3 σ
  · refine ab_iload_n hκ dX7_readsPlayers_19 rfl ?_
    refine ab_iconst (v := 3) hκ dX7_readsPlayers_20 rfl ?_
    refine ab_irem hκ dX7_readsPlayers_21 ?_
    refine ab_lti (fun v5 => ?_)
    refine ab_istore_n (lv' := [sy_vr 61, sy_vi x3, sy_vi x4, sy_vi v5, none]) hκ dX7_readsPlayers_22 rfl (by decide) rfl ?_
    refine ab_iload_n hκ dX7_readsPlayers_23 rfl ?_
    refine ab_aload_n hκ dX7_readsPlayers_24 rfl ?_
    refine ab_getf (v := .ref 66) hκ (sy_o7 rfl) kf_RX7_22 rfl dX7_readsPlayers_25 rfl ?_
    refine ab_iload_n hκ dX7_readsPlayers_28 rfl ?_
    refine ab_iald hκ rfl dX7_readsPlayers_29 ?_
    refine ab_cSi (vs := [.int v5, .int (σ 66 (sy_ix x4))]) (st := []) hκ dX7_readsPlayers_30 kl_RX7_116 ki_X7_playerOf kv_X7_playerOf (m7_playerOf_ok v5 (σ 66 (sy_ix x4)) σ) rfl (by decide) (Nat.le_of_ble_eq_true rfl) rfl (fun r7 σ6 => ?_)
    refine ab_istore (lv' := [sy_vr 61, sy_vi x3, sy_vi x4, sy_vi v5, sy_vi r7]) hκ dX7_readsPlayers_33 (by decide) rfl ?_
    refine ab_iload hκ dX7_readsPlayers_35 rfl ?_
    refine ab_bipush (v := (-9)) hκ dX7_readsPlayers_37 rfl ?_
    refine ab_icmp_ne (tgt := 49) hκ dX7_readsPlayers_39 rfl ?_ ?_
    · refine ab_iload_n hκ dX7_readsPlayers_49 rfl ?_
      refine ab_iconst (v := 2) hκ dX7_readsPlayers_50 rfl ?_
      refine ab_icmp_ge (tgt := 68) hκ dX7_readsPlayers_51 rfl ?_ ?_
      · refine ab_fg (lv' := [sy_vr 61, sy_vi x3, sy_vi x4, sy_vi v5, none]) [4] rfl ?_
        exact m7_readsPlayers_J68_ok hκ hK14 hE14_42 hE14_93 x3 x4 v5 σ6
      · refine ab_aload_n hκ dX7_readsPlayers_54 rfl ?_
        refine ab_getf (v := .ref 68) hκ (sy_o7 rfl) kf_RX7_28 rfl dX7_readsPlayers_55 rfl ?_
        refine ab_iconst (v := 2) hκ dX7_readsPlayers_58 rfl ?_
        refine ab_iload_n hκ dX7_readsPlayers_59 rfl ?_
        refine ab_iconst (v := 3) hκ dX7_readsPlayers_60 rfl ?_
        refine ab_idiv hκ dX7_readsPlayers_61 ?_
        refine ab_imul hκ dX7_readsPlayers_62 ?_
        refine ab_iload_n hκ dX7_readsPlayers_63 rfl ?_
        refine ab_iadd hκ dX7_readsPlayers_64 ?_
        refine ab_iload hκ dX7_readsPlayers_65 rfl ?_
        refine ab_iast hκ rfl dX7_readsPlayers_67 ?_
        refine ab_lts (fun σ13 => ?_)
        refine ab_fg (lv' := [sy_vr 61, sy_vi x3, sy_vi x4, sy_vi v5, none]) [4] rfl ?_
        exact m7_readsPlayers_J68_ok hκ hK14 hE14_42 hE14_93 x3 x4 v5 σ13
    · refine ab_fg (lv' := [sy_vr 61, none, sy_vi x4, none, none]) [1, 3, 4] rfl ?_
      exact hE14_42 x4 σ6
theorem m7_readsPlayers_L14_ok {κ : Kx} (hκ : Gd κ cX7_readsPlayers 5 RX7 (some .int) 2) {E14_42 : Int32 → St → Option (Int32 × St)} (hE14_42 : ∀ (y2 : Int32) (σ : St), Ab sy_vi κ 42 [sy_vr 61, none, sy_vi y2, none, none] [] σ (E14_42 y2 σ)) {E14_93 : Int32 → St → Option (Int32 × St)} (hE14_93 : ∀ (y1 : Int32) (σ : St), Ab sy_vi κ 93 [sy_vr 61, sy_vi y1, none, none, none] [] σ (E14_93 y1 σ)) : ∀ (n : Nat) (x3 : Int32) (x4 : Int32) (σ : St), Ab sy_vi κ 14 [sy_vr 61, sy_vi x3, sy_vi x4, none, none] [] σ (m7_readsPlayers_L14  E14_42 E14_93 n x3 x4 σ) := by
  intro n
  induction n with
  | zero => intros; exact ab_none
  | succ n ih => exact fun x3 x4 σ => m7_readsPlayers_L14b_ok hκ   ih hE14_42 hE14_93 x3 x4 σ
def m7_readsPlayers (σ : St) : Option (Int32 × St) := sy_lt (sy_sf σ 61 7 0) (fun σ1 => sy_gd 0 2 (sy_lt (σ1 67 (sy_ix 0)) (fun v2 => m7_readsPlayers_L14 (fun y14 σ15 => sy_lt (sy_sf σ15 61 7 0) (fun σ16 => some (y14, σ16))) (fun y17 σ18 => if y17 ≤ 0 then (some ((-1), σ18)) else (sy_dv 3 (if (y17 - y17 / 3 * 3) = 2 then (some ((-1), σ18)) else (sy_lt (sy_sf σ18 61 7 0) (fun σ19 => some (y17, σ19)))))) sy_FU v2 0 σ1)))
set_option maxRecDepth 100000 in
set_option maxHeartbeats 4000000 in
theorem m7_readsPlayers_ok (σ : St) : Cok sy_vi yX7_readsPlayers cX7_readsPlayers 5 (some .int) 2 [.ref 61] σ (m7_readsPlayers σ) := by
  refine cok_of (own := RX7) (by decide) rfl (fun ad => Nat.le_of_ble_eq_true rfl) (fun κ hκ => ?_)
  show Ab sy_vi κ 0 [sy_vr 61, none, none, none, none] [] σ (m7_readsPlayers σ)
  unfold m7_readsPlayers
  refine ab_aload_n hκ dX7_readsPlayers_0 rfl ?_
  refine ab_iconst (v := 0) hκ dX7_readsPlayers_1 rfl ?_
  refine ab_putf hκ (sy_o7 rfl) kp_RX7_113 rfl dX7_readsPlayers_2 ?_
  refine ab_lts (fun σ1 => ?_)
  refine ab_aload_n hκ dX7_readsPlayers_5 rfl ?_
  refine ab_getf (v := .ref 67) hκ (sy_o7 rfl) kf_RX7_25 rfl dX7_readsPlayers_6 rfl ?_
  refine ab_iconst (v := 0) hκ dX7_readsPlayers_9 rfl ?_
  refine ab_iald hκ rfl dX7_readsPlayers_10 ?_
  refine ab_lti (fun v2 => ?_)
  refine ab_istore_n (lv' := [sy_vr 61, sy_vi v2, none, none, none]) hκ dX7_readsPlayers_11 rfl (by decide) rfl ?_
  refine ab_iconst (v := 0) hκ dX7_readsPlayers_12 rfl ?_
  refine ab_istore_n (lv' := [sy_vr 61, sy_vi v2, sy_vi 0, none, none]) hκ dX7_readsPlayers_13 rfl (by decide) rfl ?_
  refine m7_readsPlayers_L14_ok hκ ?_ ?_ _ _ _ _
  · intro y14 σ15
    refine ab_aload_n hκ dX7_readsPlayers_42 rfl ?_
    refine ab_iconst (v := 0) hκ dX7_readsPlayers_43 rfl ?_
    refine ab_putf hκ (sy_o7 rfl) kp_RX7_113 rfl dX7_readsPlayers_44 ?_
    refine ab_lts (fun σ16 => ?_)
    refine ab_iload_n hκ dX7_readsPlayers_47 rfl ?_
    exact ab_iret hκ dX7_readsPlayers_48
  · intro y17 σ18
    refine ab_iload_n hκ dX7_readsPlayers_93 rfl ?_
    refine ab_if_le (tgt := 111) hκ dX7_readsPlayers_94 rfl ?_ ?_
    · refine ab_iconst (v := (-1)) hκ dX7_readsPlayers_111 rfl ?_
      exact ab_iret hκ dX7_readsPlayers_112
    · refine ab_iload_n hκ dX7_readsPlayers_97 rfl ?_
      refine ab_iconst (v := 3) hκ dX7_readsPlayers_98 rfl ?_
      refine ab_irem hκ dX7_readsPlayers_99 ?_
      refine ab_iconst (v := 2) hκ dX7_readsPlayers_100 rfl ?_
      refine ab_icmp_eq (tgt := 111) hκ dX7_readsPlayers_101 rfl ?_ ?_
      · refine ab_iconst (v := (-1)) hκ dX7_readsPlayers_111 rfl ?_
        exact ab_iret hκ dX7_readsPlayers_112
      · refine ab_aload_n hκ dX7_readsPlayers_104 rfl ?_
        refine ab_iconst (v := 0) hκ dX7_readsPlayers_105 rfl ?_
        refine ab_putf hκ (sy_o7 rfl) kp_RX7_113 rfl dX7_readsPlayers_106 ?_
        refine ab_lts (fun σ19 => ?_)
        refine ab_iload_n hκ dX7_readsPlayers_109 rfl ?_
        exact ab_iret hκ dX7_readsPlayers_110
-- BreathBandModel.letterOf(II)I, depth 1
def m7_letterOf (a1 : Int32) (a2 : Int32) (σ : St) : Option (Int32 × St) := sy_bd (m7_in (Int32.toInt64 a1) 97 (Int32.toInt64 a2) σ) (fun r2 σ1 => if r2 = 0 then (some ((-9), σ1)) else (some ((a1 - 97), σ1)))
set_option maxRecDepth 100000 in
set_option maxHeartbeats 4000000 in
theorem m7_letterOf_ok (a1 : Int32) (a2 : Int32) (σ : St) : Cok sy_vi yX7_letterOf cX7_letterOf 2 (some .int) 1 [.int a1, .int a2] σ (m7_letterOf a1 a2 σ) := by
  refine cok_of (own := RX7) (by decide) rfl (fun ad => Nat.le_of_ble_eq_true rfl) (fun κ hκ => ?_)
  show Ab sy_vi κ 0 [sy_vi a1, sy_vi a2] [] σ (m7_letterOf a1 a2 σ)
  unfold m7_letterOf
  refine ab_iload_n hκ dX7_letterOf_0 rfl ?_
  refine ab_i2l hκ dX7_letterOf_1 ?_
  refine ab_ldc2 hκ dX7_letterOf_2 kn_RX7_119 ?_
  refine ab_iload_n hκ dX7_letterOf_5 rfl ?_
  refine ab_i2l hκ dX7_letterOf_6 ?_
  refine ab_cSi (vs := [.long (Int32.toInt64 a1), .long 97, .long (Int32.toInt64 a2)]) (st := []) hκ dX7_letterOf_7 kl_RX7_76 ki_X7_in kv_X7_in (m7_in_ok (Int32.toInt64 a1) 97 (Int32.toInt64 a2) σ) rfl (by decide) (Nat.le_of_ble_eq_true rfl) rfl (fun r2 σ1 => ?_)
  refine ab_if_eq (tgt := 20) hκ dX7_letterOf_10 rfl ?_ ?_
  · refine ab_bipush (v := (-9)) hκ dX7_letterOf_20 rfl ?_
    exact ab_iret hκ dX7_letterOf_22
  · refine ab_iload_n hκ dX7_letterOf_13 rfl ?_
    refine ab_bipush (v := 97) hκ dX7_letterOf_14 rfl ?_
    refine ab_isub hκ dX7_letterOf_16 ?_
    refine ab_goto (tgt := 22) hκ dX7_letterOf_17 rfl ?_
    exact ab_iret hκ dX7_letterOf_22
-- BreathBandModel.noteOf(II)I, depth 2
def m7_noteOf (a1 : Int32) (a2 : Int32) (σ : St) : Option (Int32 × St) := if a1 = 0 then (sy_bd (m7_letterOf a2 120 σ) (fun r4 σ3 => some (r4, σ3))) else (if a1 = 1 then (sy_bd (m7_letterOf a2 107 σ) (fun r2 σ1 => some (r2, σ1))) else (if a2 = 59 then (some (0, σ)) else (some ((-9), σ))))
set_option maxRecDepth 100000 in
set_option maxHeartbeats 4000000 in
theorem m7_noteOf_ok (a1 : Int32) (a2 : Int32) (σ : St) : Cok sy_vi yX7_noteOf cX7_noteOf 2 (some .int) 2 [.int a1, .int a2] σ (m7_noteOf a1 a2 σ) := by
  refine cok_of (own := RX7) (by decide) rfl (fun ad => Nat.le_of_ble_eq_true rfl) (fun κ hκ => ?_)
  show Ab sy_vi κ 0 [sy_vi a1, sy_vi a2] [] σ (m7_noteOf a1 a2 σ)
  unfold m7_noteOf
  refine ab_iload_n hκ dX7_noteOf_0 rfl ?_
  refine ab_if_ne (tgt := 13) hκ dX7_noteOf_1 rfl ?_ ?_
  · refine ab_iload_n hκ dX7_noteOf_13 rfl ?_
    refine ab_iconst (v := 1) hκ dX7_noteOf_14 rfl ?_
    refine ab_icmp_ne (tgt := 27) hκ dX7_noteOf_15 rfl ?_ ?_
    · refine ab_iload_n hκ dX7_noteOf_27 rfl ?_
      refine ab_bipush (v := 59) hκ dX7_noteOf_28 rfl ?_
      refine ab_icmp_ne (tgt := 37) hκ dX7_noteOf_30 rfl ?_ ?_
      · refine ab_bipush (v := (-9)) hκ dX7_noteOf_37 rfl ?_
        exact ab_iret hκ dX7_noteOf_39
      · refine ab_iconst (v := 0) hκ dX7_noteOf_33 rfl ?_
        refine ab_goto (tgt := 39) hκ dX7_noteOf_34 rfl ?_
        exact ab_iret hκ dX7_noteOf_39
    · refine ab_iload_n hκ dX7_noteOf_18 rfl ?_
      refine ab_bipush (v := 107) hκ dX7_noteOf_19 rfl ?_
      refine ab_cSi (vs := [.int a2, .int 107]) (st := []) hκ dX7_noteOf_21 kl_RX7_121 ki_X7_letterOf kv_X7_letterOf (m7_letterOf_ok a2 107 σ) rfl (by decide) (Nat.le_of_ble_eq_true rfl) rfl (fun r2 σ1 => ?_)
      refine ab_goto (tgt := 39) hκ dX7_noteOf_24 rfl ?_
      exact ab_iret hκ dX7_noteOf_39
  · refine ab_iload_n hκ dX7_noteOf_4 rfl ?_
    refine ab_bipush (v := 120) hκ dX7_noteOf_5 rfl ?_
    refine ab_cSi (vs := [.int a2, .int 120]) (st := []) hκ dX7_noteOf_7 kl_RX7_121 ki_X7_letterOf kv_X7_letterOf (m7_letterOf_ok a2 120 σ) rfl (by decide) (Nat.le_of_ble_eq_true rfl) rfl (fun r4 σ3 => ?_)
    refine ab_goto (tgt := 39) hκ dX7_noteOf_10 rfl ?_
    exact ab_iret hκ dX7_noteOf_39
-- BreathBandModel.readsNotes()I, depth 3
def m7_readsNotes_J71 (K14 : Int32 → Int32 → St → Option (Int32 × St)) (E14_45 : Int32 → St → Option (Int32 × St)) (E14_96 : Int32 → St → Option (Int32 × St)) (x8 : Int32) (x9 : Int32) (x10 : Int32)  (σ : St) : Option (Int32 × St) := if x10 = 1 then (sy_lt (sy_sf σ 61 9 ((σ 61 9) + 1)) (fun σ12 => K14 x8 (x9 + 1) σ12)) else (sy_lt (sy_sf σ 61 9 ((σ 61 9) + 0)) (fun σ11 => K14 x8 (x9 + 1) σ11))
set_option maxRecDepth 100000 in
set_option maxHeartbeats 4000000 in
theorem m7_readsNotes_J71_ok {κ : Kx} (hκ : Gd κ cX7_readsNotes 5 RX7 (some .int) 3) {K14 : Int32 → Int32 → St → Option (Int32 × St)} (hK14 : ∀ (x3 : Int32) (x4 : Int32) (σ : St), Ab sy_vi κ 14 [sy_vr 61, sy_vi x3, sy_vi x4, none, none] [] σ (K14 x3 x4 σ)) {E14_45 : Int32 → St → Option (Int32 × St)} (hE14_45 : ∀ (y2 : Int32) (σ : St), Ab sy_vi κ 45 [sy_vr 61, none, sy_vi y2, none, none] [] σ (E14_45 y2 σ)) {E14_96 : Int32 → St → Option (Int32 × St)} (hE14_96 : ∀ (y1 : Int32) (σ : St), Ab sy_vi κ 96 [sy_vr 61, sy_vi y1, none, none, none] [] σ (E14_96 y1 σ)) (x8 : Int32) (x9 : Int32) (x10 : Int32) (σ : St) : Ab sy_vi κ 71 [sy_vr 61, sy_vi x8, sy_vi x9, sy_vi x10, none] [] σ (m7_readsNotes_J71 K14 E14_45 E14_96 x8 x9 x10 σ) := by
  unfold m7_readsNotes_J71
  refine ab_aload_n hκ dX7_readsNotes_71 rfl ?_
  refine ab_dupa hκ dX7_readsNotes_72 ?_
  refine ab_getf (v := .int (σ 61 9)) hκ (sy_o7 rfl) kf_RX7_124 rfl dX7_readsNotes_73 rfl ?_
  refine ab_iload_n hκ dX7_readsNotes_76 rfl ?_
  refine ab_iconst (v := 1) hκ dX7_readsNotes_77 rfl ?_
  refine ab_icmp_ne (tgt := 85) hκ dX7_readsNotes_78 rfl ?_ ?_
  · refine ab_iconst (v := 0) hκ dX7_readsNotes_85 rfl ?_
    refine ab_iadd hκ dX7_readsNotes_86 ?_
    refine ab_putf hκ (sy_o7 rfl) kp_RX7_124 rfl dX7_readsNotes_87 ?_
    refine ab_lts (fun σ11 => ?_)
    refine ab_iinc (v := (x9 + 1)) (lv' := [sy_vr 61, sy_vi x8, sy_vi (x9 + 1), sy_vi x10, none]) hκ dX7_readsNotes_90 rfl rfl (by decide) rfl ?_
    refine ab_goto (tgt := 14) hκ dX7_readsNotes_93 rfl ?_
    refine ab_fg (lv' := [sy_vr 61, sy_vi x8, sy_vi (x9 + 1), none, none]) [3] rfl ?_
    exact hK14 x8 (x9 + 1) σ11
  · refine ab_iconst (v := 1) hκ dX7_readsNotes_81 rfl ?_
    refine ab_goto (tgt := 86) hκ dX7_readsNotes_82 rfl ?_
    refine ab_iadd hκ dX7_readsNotes_86 ?_
    refine ab_putf hκ (sy_o7 rfl) kp_RX7_124 rfl dX7_readsNotes_87 ?_
    refine ab_lts (fun σ12 => ?_)
    refine ab_iinc (v := (x9 + 1)) (lv' := [sy_vr 61, sy_vi x8, sy_vi (x9 + 1), sy_vi x10, none]) hκ dX7_readsNotes_90 rfl rfl (by decide) rfl ?_
    refine ab_goto (tgt := 14) hκ dX7_readsNotes_93 rfl ?_
    refine ab_fg (lv' := [sy_vr 61, sy_vi x8, sy_vi (x9 + 1), none, none]) [3] rfl ?_
    exact hK14 x8 (x9 + 1) σ12
def m7_readsNotes_L14b (K14 : Int32 → Int32 → St → Option (Int32 × St)) (E14_45 : Int32 → St → Option (Int32 × St)) (E14_96 : Int32 → St → Option (Int32 × St)) (x3 : Int32) (x4 : Int32) (σ : St) : Option (Int32 × St) := if x3 ≤ x4 then (E14_96 x3 σ) else (sy_dv 3 (sy_lt (x4 - x4 / 3 * 3) (fun v5 => sy_gd (48 + x4) 96 (sy_bd (m7_noteOf v5 (σ 66 (sy_ix (48 + x4))) σ) (fun r7 σ6 => if r7 = (-9) then (E14_45 x4 σ6) else (if 2 ≤ v5 then (m7_readsNotes_J71 K14 E14_45 E14_96 x3 x4 v5 σ6) else (sy_dv 3 (sy_gd ((2 * (x4 / 3)) + v5) 32 (sy_lt (sy_sf σ6 69 (sy_ix ((2 * (x4 / 3)) + v5)) r7) (fun σ13 => m7_readsNotes_J71 K14 E14_45 E14_96 x3 x4 v5 σ13))))))))))
def m7_readsNotes_L14 (E14_45 : Int32 → St → Option (Int32 × St)) (E14_96 : Int32 → St → Option (Int32 × St)) : Nat → Int32 → Int32 → St → Option (Int32 × St)
  | 0 => fun _ _ _ => none
  | n + 1 => m7_readsNotes_L14b  (m7_readsNotes_L14  E14_45 E14_96 n) E14_45 E14_96
set_option maxRecDepth 100000 in
set_option maxHeartbeats 4000000 in
theorem m7_readsNotes_L14b_ok {κ : Kx} (hκ : Gd κ cX7_readsNotes 5 RX7 (some .int) 3) {K14 : Int32 → Int32 → St → Option (Int32 × St)} (hK14 : ∀ (x3 : Int32) (x4 : Int32) (σ : St), Ab sy_vi κ 14 [sy_vr 61, sy_vi x3, sy_vi x4, none, none] [] σ (K14 x3 x4 σ)) {E14_45 : Int32 → St → Option (Int32 × St)} (hE14_45 : ∀ (y2 : Int32) (σ : St), Ab sy_vi κ 45 [sy_vr 61, none, sy_vi y2, none, none] [] σ (E14_45 y2 σ)) {E14_96 : Int32 → St → Option (Int32 × St)} (hE14_96 : ∀ (y1 : Int32) (σ : St), Ab sy_vi κ 96 [sy_vr 61, sy_vi y1, none, none, none] [] σ (E14_96 y1 σ)) (x3 : Int32) (x4 : Int32) (σ : St) : Ab sy_vi κ 14 [sy_vr 61, sy_vi x3, sy_vi x4, none, none] [] σ (m7_readsNotes_L14b  K14 E14_45 E14_96 x3 x4 σ) := by
  unfold m7_readsNotes_L14b
  refine ab_iload_n hκ dX7_readsNotes_14 rfl ?_
  refine ab_iload_n hκ dX7_readsNotes_15 rfl ?_
  refine ab_icmp_ge (tgt := 96) hκ dX7_readsNotes_16 rfl ?_ ?_
  · refine ab_fg (lv' := [sy_vr 61, sy_vi x3, none, none, none]) [2] rfl ?_
    exact hE14_96 x3 σ
  · refine ab_iload_n hκ dX7_readsNotes_19 rfl ?_
    refine ab_iconst (v := 3) hκ dX7_readsNotes_20 rfl ?_
    refine ab_irem hκ dX7_readsNotes_21 ?_
    refine ab_lti (fun v5 => ?_)
    refine ab_istore_n (lv' := [sy_vr 61, sy_vi x3, sy_vi x4, sy_vi v5, none]) hκ dX7_readsNotes_22 rfl (by decide) rfl ?_
    refine ab_iload_n hκ dX7_readsNotes_23 rfl ?_
    refine ab_aload_n hκ dX7_readsNotes_24 rfl ?_
    refine ab_getf (v := .ref 66) hκ (sy_o7 rfl) kf_RX7_22 rfl dX7_readsNotes_25 rfl ?_
    refine ab_bipush (v := 48) hκ dX7_readsNotes_28 rfl ?_
    refine ab_iload_n hκ dX7_readsNotes_30 rfl ?_
    refine ab_iadd hκ dX7_readsNotes_31 ?_
    refine ab_iald hκ rfl dX7_readsNotes_32 ?_
    refine ab_cSi (vs := [.int v5, .int (σ 66 (sy_ix (48 + x4)))]) (st := []) hκ dX7_readsNotes_33 kl_RX7_127 ki_X7_noteOf kv_X7_noteOf (m7_noteOf_ok v5 (σ 66 (sy_ix (48 + x4))) σ) rfl (by decide) (Nat.le_of_ble_eq_true rfl) rfl (fun r7 σ6 => ?_)
    refine ab_istore (lv' := [sy_vr 61, sy_vi x3, sy_vi x4, sy_vi v5, sy_vi r7]) hκ dX7_readsNotes_36 (by decide) rfl ?_
    refine ab_iload hκ dX7_readsNotes_38 rfl ?_
    refine ab_bipush (v := (-9)) hκ dX7_readsNotes_40 rfl ?_
    refine ab_icmp_ne (tgt := 52) hκ dX7_readsNotes_42 rfl ?_ ?_
    · refine ab_iload_n hκ dX7_readsNotes_52 rfl ?_
      refine ab_iconst (v := 2) hκ dX7_readsNotes_53 rfl ?_
      refine ab_icmp_ge (tgt := 71) hκ dX7_readsNotes_54 rfl ?_ ?_
      · refine ab_fg (lv' := [sy_vr 61, sy_vi x3, sy_vi x4, sy_vi v5, none]) [4] rfl ?_
        exact m7_readsNotes_J71_ok hκ hK14 hE14_45 hE14_96 x3 x4 v5 σ6
      · refine ab_aload_n hκ dX7_readsNotes_57 rfl ?_
        refine ab_getf (v := .ref 69) hκ (sy_o7 rfl) kf_RX7_31 rfl dX7_readsNotes_58 rfl ?_
        refine ab_iconst (v := 2) hκ dX7_readsNotes_61 rfl ?_
        refine ab_iload_n hκ dX7_readsNotes_62 rfl ?_
        refine ab_iconst (v := 3) hκ dX7_readsNotes_63 rfl ?_
        refine ab_idiv hκ dX7_readsNotes_64 ?_
        refine ab_imul hκ dX7_readsNotes_65 ?_
        refine ab_iload_n hκ dX7_readsNotes_66 rfl ?_
        refine ab_iadd hκ dX7_readsNotes_67 ?_
        refine ab_iload hκ dX7_readsNotes_68 rfl ?_
        refine ab_iast hκ rfl dX7_readsNotes_70 ?_
        refine ab_lts (fun σ13 => ?_)
        refine ab_fg (lv' := [sy_vr 61, sy_vi x3, sy_vi x4, sy_vi v5, none]) [4] rfl ?_
        exact m7_readsNotes_J71_ok hκ hK14 hE14_45 hE14_96 x3 x4 v5 σ13
    · refine ab_fg (lv' := [sy_vr 61, none, sy_vi x4, none, none]) [1, 3, 4] rfl ?_
      exact hE14_45 x4 σ6
theorem m7_readsNotes_L14_ok {κ : Kx} (hκ : Gd κ cX7_readsNotes 5 RX7 (some .int) 3) {E14_45 : Int32 → St → Option (Int32 × St)} (hE14_45 : ∀ (y2 : Int32) (σ : St), Ab sy_vi κ 45 [sy_vr 61, none, sy_vi y2, none, none] [] σ (E14_45 y2 σ)) {E14_96 : Int32 → St → Option (Int32 × St)} (hE14_96 : ∀ (y1 : Int32) (σ : St), Ab sy_vi κ 96 [sy_vr 61, sy_vi y1, none, none, none] [] σ (E14_96 y1 σ)) : ∀ (n : Nat) (x3 : Int32) (x4 : Int32) (σ : St), Ab sy_vi κ 14 [sy_vr 61, sy_vi x3, sy_vi x4, none, none] [] σ (m7_readsNotes_L14  E14_45 E14_96 n x3 x4 σ) := by
  intro n
  induction n with
  | zero => intros; exact ab_none
  | succ n ih => exact fun x3 x4 σ => m7_readsNotes_L14b_ok hκ   ih hE14_45 hE14_96 x3 x4 σ
def m7_readsNotes (σ : St) : Option (Int32 × St) := sy_lt (sy_sf σ 61 9 0) (fun σ1 => sy_gd 1 2 (sy_lt (σ1 67 (sy_ix 1)) (fun v2 => m7_readsNotes_L14 (fun y14 σ15 => sy_lt (sy_sf σ15 61 9 0) (fun σ16 => some (y14, σ16))) (fun y17 σ18 => if y17 ≤ 0 then (some ((-1), σ18)) else (sy_dv 3 (if (y17 - y17 / 3 * 3) = 2 then (some ((-1), σ18)) else (sy_lt (sy_sf σ18 61 9 0) (fun σ19 => some (y17, σ19)))))) sy_FU v2 0 σ1)))
set_option maxRecDepth 100000 in
set_option maxHeartbeats 4000000 in
theorem m7_readsNotes_ok (σ : St) : Cok sy_vi yX7_readsNotes cX7_readsNotes 5 (some .int) 3 [.ref 61] σ (m7_readsNotes σ) := by
  refine cok_of (own := RX7) (by decide) rfl (fun ad => Nat.le_of_ble_eq_true rfl) (fun κ hκ => ?_)
  show Ab sy_vi κ 0 [sy_vr 61, none, none, none, none] [] σ (m7_readsNotes σ)
  unfold m7_readsNotes
  refine ab_aload_n hκ dX7_readsNotes_0 rfl ?_
  refine ab_iconst (v := 0) hκ dX7_readsNotes_1 rfl ?_
  refine ab_putf hκ (sy_o7 rfl) kp_RX7_124 rfl dX7_readsNotes_2 ?_
  refine ab_lts (fun σ1 => ?_)
  refine ab_aload_n hκ dX7_readsNotes_5 rfl ?_
  refine ab_getf (v := .ref 67) hκ (sy_o7 rfl) kf_RX7_25 rfl dX7_readsNotes_6 rfl ?_
  refine ab_iconst (v := 1) hκ dX7_readsNotes_9 rfl ?_
  refine ab_iald hκ rfl dX7_readsNotes_10 ?_
  refine ab_lti (fun v2 => ?_)
  refine ab_istore_n (lv' := [sy_vr 61, sy_vi v2, none, none, none]) hκ dX7_readsNotes_11 rfl (by decide) rfl ?_
  refine ab_iconst (v := 0) hκ dX7_readsNotes_12 rfl ?_
  refine ab_istore_n (lv' := [sy_vr 61, sy_vi v2, sy_vi 0, none, none]) hκ dX7_readsNotes_13 rfl (by decide) rfl ?_
  refine m7_readsNotes_L14_ok hκ ?_ ?_ _ _ _ _
  · intro y14 σ15
    refine ab_aload_n hκ dX7_readsNotes_45 rfl ?_
    refine ab_iconst (v := 0) hκ dX7_readsNotes_46 rfl ?_
    refine ab_putf hκ (sy_o7 rfl) kp_RX7_124 rfl dX7_readsNotes_47 ?_
    refine ab_lts (fun σ16 => ?_)
    refine ab_iload_n hκ dX7_readsNotes_50 rfl ?_
    exact ab_iret hκ dX7_readsNotes_51
  · intro y17 σ18
    refine ab_iload_n hκ dX7_readsNotes_96 rfl ?_
    refine ab_if_le (tgt := 114) hκ dX7_readsNotes_97 rfl ?_ ?_
    · refine ab_iconst (v := (-1)) hκ dX7_readsNotes_114 rfl ?_
      exact ab_iret hκ dX7_readsNotes_115
    · refine ab_iload_n hκ dX7_readsNotes_100 rfl ?_
      refine ab_iconst (v := 3) hκ dX7_readsNotes_101 rfl ?_
      refine ab_irem hκ dX7_readsNotes_102 ?_
      refine ab_iconst (v := 2) hκ dX7_readsNotes_103 rfl ?_
      refine ab_icmp_eq (tgt := 114) hκ dX7_readsNotes_104 rfl ?_ ?_
      · refine ab_iconst (v := (-1)) hκ dX7_readsNotes_114 rfl ?_
        exact ab_iret hκ dX7_readsNotes_115
      · refine ab_aload_n hκ dX7_readsNotes_107 rfl ?_
        refine ab_iconst (v := 0) hκ dX7_readsNotes_108 rfl ?_
        refine ab_putf hκ (sy_o7 rfl) kp_RX7_124 rfl dX7_readsNotes_109 ?_
        refine ab_lts (fun σ19 => ?_)
        refine ab_iload_n hκ dX7_readsNotes_112 rfl ?_
        exact ab_iret hκ dX7_readsNotes_113
-- BreathBandModel.readsText(I)I, depth 4
def m7_readsText (a1 : Int32) (σ : St) : Option (Int32 × St) := if a1 = 0 then (sy_bd (m7_readsPlayers σ) (fun r4 σ3 => some (r4, σ3))) else (sy_bd (m7_readsNotes σ) (fun r2 σ1 => some (r2, σ1)))
set_option maxRecDepth 100000 in
set_option maxHeartbeats 4000000 in
theorem m7_readsText_ok (a1 : Int32) (σ : St) : Cok sy_vi yX7_readsText cX7_readsText 2 (some .int) 4 [.ref 61, .int a1] σ (m7_readsText a1 σ) := by
  refine cok_of (own := RX7) (by decide) rfl (fun ad => Nat.le_of_ble_eq_true rfl) (fun κ hκ => ?_)
  show Ab sy_vi κ 0 [sy_vr 61, sy_vi a1] [] σ (m7_readsText a1 σ)
  unfold m7_readsText
  refine ab_iload_n hκ dX7_readsText_0 rfl ?_
  refine ab_if_ne (tgt := 11) hκ dX7_readsText_1 rfl ?_ ?_
  · refine ab_aload_n hκ dX7_readsText_11 rfl ?_
    refine ab_cVi (vs := []) (st := []) hκ dX7_readsText_12 kl_RX7_134 ki_X7_readsNotes kv_X7_readsNotes (sy_o7 rfl) rfl rfl (m7_readsNotes_ok σ) rfl (by decide) (Nat.le_of_ble_eq_true rfl) rfl (fun r2 σ1 => ?_)
    exact ab_iret hκ dX7_readsText_15
  · refine ab_aload_n hκ dX7_readsText_4 rfl ?_
    refine ab_cVi (vs := []) (st := []) hκ dX7_readsText_5 kl_RX7_130 ki_X7_readsPlayers kv_X7_readsPlayers (sy_o7 rfl) rfl rfl (m7_readsPlayers_ok σ) rfl (by decide) (Nat.le_of_ble_eq_true rfl) rfl (fun r4 σ3 => ?_)
    refine ab_goto (tgt := 15) hκ dX7_readsText_8 rfl ?_
    exact ab_iret hκ dX7_readsText_15
-- BreathBandModel.fault(I)I, depth 5
def m7_fault (a1 : Int32) (σ : St) : Option (Int32 × St) := sy_bd (m7_isTwo a1 σ) (fun r2 σ1 => if r2 = 0 then (some ((-2), σ1)) else (sy_bd (m7_readsText a1 σ1) (fun r4 σ3 => some (r4, σ3))))
set_option maxRecDepth 100000 in
set_option maxHeartbeats 4000000 in
theorem m7_fault_ok (a1 : Int32) (σ : St) : Cok sy_vi yX7_fault cX7_fault 2 (some .int) 5 [.ref 61, .int a1] σ (m7_fault a1 σ) := by
  refine cok_of (own := RX7) (by decide) rfl (fun ad => Nat.le_of_ble_eq_true rfl) (fun κ hκ => ?_)
  show Ab sy_vi κ 0 [sy_vr 61, sy_vi a1] [] σ (m7_fault a1 σ)
  unfold m7_fault
  refine ab_iload_n hκ dX7_fault_0 rfl ?_
  refine ab_cSi (vs := [.int a1]) (st := []) hκ dX7_fault_1 kl_RX7_104 ki_X7_isTwo kv_X7_isTwo (m7_isTwo_ok a1 σ) rfl (by decide) (Nat.le_of_ble_eq_true rfl) rfl (fun r2 σ1 => ?_)
  refine ab_if_eq (tgt := 15) hκ dX7_fault_4 rfl ?_ ?_
  · refine ab_bipush (v := (-2)) hκ dX7_fault_15 rfl ?_
    exact ab_iret hκ dX7_fault_17
  · refine ab_aload_n hκ dX7_fault_7 rfl ?_
    refine ab_iload_n hκ dX7_fault_8 rfl ?_
    refine ab_cVi (vs := [.int a1]) (st := []) hκ dX7_fault_9 kl_RX7_137 ki_X7_readsText kv_X7_readsText (sy_o7 rfl) rfl rfl (m7_readsText_ok a1 σ1) rfl (by decide) (Nat.le_of_ble_eq_true rfl) rfl (fun r4 σ3 => ?_)
    refine ab_goto (tgt := 17) hκ dX7_fault_12 rfl ?_
    exact ab_iret hκ dX7_fault_17
-- BreathBandModel.isPlayer(I)Z, depth 1
def m7_isPlayer (a1 : Int32) (σ : St) : Option (Int32 × St) := sy_bd (m7_in (Int32.toInt64 a1) 0 (Int32.toInt64 ((σ 61 7) - 1)) σ) (fun r2 σ1 => sy_zg r2 (some (r2, σ1)))
set_option maxRecDepth 100000 in
set_option maxHeartbeats 4000000 in
theorem m7_isPlayer_ok (a1 : Int32) (σ : St) : Cok sy_vi yX7_isPlayer cX7_isPlayer 2 (some .boolean) 1 [.ref 61, .int a1] σ (m7_isPlayer a1 σ) := by
  refine cok_of (own := RX7) (by decide) rfl (fun ad => Nat.le_of_ble_eq_true rfl) (fun κ hκ => ?_)
  show Ab sy_vi κ 0 [sy_vr 61, sy_vi a1] [] σ (m7_isPlayer a1 σ)
  unfold m7_isPlayer
  refine ab_iload_n hκ dX7_isPlayer_0 rfl ?_
  refine ab_i2l hκ dX7_isPlayer_1 ?_
  refine ab_lconst (v := 0) hκ dX7_isPlayer_2 rfl ?_
  refine ab_aload_n hκ dX7_isPlayer_3 rfl ?_
  refine ab_getf (v := .int (σ 61 7)) hκ (sy_o7 rfl) kf_RX7_113 rfl dX7_isPlayer_4 rfl ?_
  refine ab_iconst (v := 1) hκ dX7_isPlayer_7 rfl ?_
  refine ab_isub hκ dX7_isPlayer_8 ?_
  refine ab_i2l hκ dX7_isPlayer_9 ?_
  refine ab_cSi (vs := [.long (Int32.toInt64 a1), .long 0, .long (Int32.toInt64 ((σ 61 7) - 1))]) (st := []) hκ dX7_isPlayer_10 kl_RX7_76 ki_X7_in kv_X7_in (m7_in_ok (Int32.toInt64 a1) 0 (Int32.toInt64 ((σ 61 7) - 1)) σ) rfl (by decide) (Nat.le_of_ble_eq_true rfl) rfl (fun r2 σ1 => ?_)
  exact ab_zret hκ dX7_isPlayer_13
-- BreathBandModel.player(II)I, depth 3
def m7_player (a1 : Int32) (a2 : Int32) (σ : St) : Option (Int32 × St) := sy_bd (m7_readsPlayers σ) (fun r2 σ1 => sy_bd (m7_isPlayer a1 σ1) (fun r4 σ3 => if r4 = 0 then (some ((-2), σ3)) else (sy_bd (m7_isTwo a2 σ3) (fun r6 σ5 => if r6 = 0 then (some ((-2), σ5)) else (sy_gd ((2 * a1) + a2) 22 (some ((σ5 68 (sy_ix ((2 * a1) + a2))), σ5)))))))
set_option maxRecDepth 100000 in
set_option maxHeartbeats 4000000 in
theorem m7_player_ok (a1 : Int32) (a2 : Int32) (σ : St) : Cok sy_vi yX7_player cX7_player 3 (some .int) 3 [.ref 61, .int a1, .int a2] σ (m7_player a1 a2 σ) := by
  refine cok_of (own := RX7) (by decide) rfl (fun ad => Nat.le_of_ble_eq_true rfl) (fun κ hκ => ?_)
  show Ab sy_vi κ 0 [sy_vr 61, sy_vi a1, sy_vi a2] [] σ (m7_player a1 a2 σ)
  unfold m7_player
  refine ab_aload_n hκ dX7_player_0 rfl ?_
  refine ab_cVi (vs := []) (st := []) hκ dX7_player_1 kl_RX7_130 ki_X7_readsPlayers kv_X7_readsPlayers (sy_o7 rfl) rfl rfl (m7_readsPlayers_ok σ) rfl (by decide) (Nat.le_of_ble_eq_true rfl) rfl (fun r2 σ1 => ?_)
  refine ab_popi hκ dX7_player_4 ?_
  refine ab_aload_n hκ dX7_player_5 rfl ?_
  refine ab_iload_n hκ dX7_player_6 rfl ?_
  refine ab_cVi (vs := [.int a1]) (st := []) hκ dX7_player_7 kl_RX7_142 ki_X7_isPlayer kv_X7_isPlayer (sy_o7 rfl) rfl rfl (m7_isPlayer_ok a1 σ1) rfl (by decide) (Nat.le_of_ble_eq_true rfl) rfl (fun r4 σ3 => ?_)
  refine ab_if_eq (tgt := 33) hκ dX7_player_10 rfl ?_ ?_
  · refine ab_bipush (v := (-2)) hκ dX7_player_33 rfl ?_
    exact ab_iret hκ dX7_player_35
  · refine ab_iload_n hκ dX7_player_13 rfl ?_
    refine ab_cSi (vs := [.int a2]) (st := []) hκ dX7_player_14 kl_RX7_104 ki_X7_isTwo kv_X7_isTwo (m7_isTwo_ok a2 σ3) rfl (by decide) (Nat.le_of_ble_eq_true rfl) rfl (fun r6 σ5 => ?_)
    refine ab_if_eq (tgt := 33) hκ dX7_player_17 rfl ?_ ?_
    · refine ab_bipush (v := (-2)) hκ dX7_player_33 rfl ?_
      exact ab_iret hκ dX7_player_35
    · refine ab_aload_n hκ dX7_player_20 rfl ?_
      refine ab_getf (v := .ref 68) hκ (sy_o7 rfl) kf_RX7_28 rfl dX7_player_21 rfl ?_
      refine ab_iconst (v := 2) hκ dX7_player_24 rfl ?_
      refine ab_iload_n hκ dX7_player_25 rfl ?_
      refine ab_imul hκ dX7_player_26 ?_
      refine ab_iload_n hκ dX7_player_27 rfl ?_
      refine ab_iadd hκ dX7_player_28 ?_
      refine ab_iald hκ rfl dX7_player_29 ?_
      refine ab_goto (tgt := 35) hκ dX7_player_30 rfl ?_
      exact ab_iret hκ dX7_player_35
-- BreathBandModel.noteBy(II)I, depth 0
def m7_noteBy (a1 : Int32) (a2 : Int32) (σ : St) : Option (Int32 × St) := if (σ 61 9) ≤ a1 then (some ((-1), σ)) else (sy_gd ((2 * a1) + a2) 32 (some ((σ 69 (sy_ix ((2 * a1) + a2))), σ)))
set_option maxRecDepth 100000 in
set_option maxHeartbeats 4000000 in
theorem m7_noteBy_ok (a1 : Int32) (a2 : Int32) (σ : St) : Cok sy_vi yX7_noteBy cX7_noteBy 3 (some .int) 0 [.ref 61, .int a1, .int a2] σ (m7_noteBy a1 a2 σ) := by
  refine cok_of (own := RX7) (by decide) rfl (fun ad => Nat.le_of_ble_eq_true rfl) (fun κ hκ => ?_)
  show Ab sy_vi κ 0 [sy_vr 61, sy_vi a1, sy_vi a2] [] σ (m7_noteBy a1 a2 σ)
  unfold m7_noteBy
  refine ab_iload_n hκ dX7_noteBy_0 rfl ?_
  refine ab_aload_n hκ dX7_noteBy_1 rfl ?_
  refine ab_getf (v := .int (σ 61 9)) hκ (sy_o7 rfl) kf_RX7_124 rfl dX7_noteBy_2 rfl ?_
  refine ab_icmp_ge (tgt := 21) hκ dX7_noteBy_5 rfl ?_ ?_
  · refine ab_iconst (v := (-1)) hκ dX7_noteBy_21 rfl ?_
    exact ab_iret hκ dX7_noteBy_22
  · refine ab_aload_n hκ dX7_noteBy_8 rfl ?_
    refine ab_getf (v := .ref 69) hκ (sy_o7 rfl) kf_RX7_31 rfl dX7_noteBy_9 rfl ?_
    refine ab_iconst (v := 2) hκ dX7_noteBy_12 rfl ?_
    refine ab_iload_n hκ dX7_noteBy_13 rfl ?_
    refine ab_imul hκ dX7_noteBy_14 ?_
    refine ab_iload_n hκ dX7_noteBy_15 rfl ?_
    refine ab_iadd hκ dX7_noteBy_16 ?_
    refine ab_iald hκ rfl dX7_noteBy_17 ?_
    refine ab_goto (tgt := 22) hκ dX7_noteBy_18 rfl ?_
    exact ab_iret hκ dX7_noteBy_22
-- BreathBandModel.note(II)I, depth 4
def m7_note (a1 : Int32) (a2 : Int32) (σ : St) : Option (Int32 × St) := sy_bd (m7_readsNotes σ) (fun r2 σ1 => sy_bd (m7_in (Int32.toInt64 a1) 0 15 σ1) (fun r4 σ3 => if r4 = 0 then (some ((-2), σ3)) else (sy_bd (m7_isTwo a2 σ3) (fun r6 σ5 => if r6 = 0 then (some ((-2), σ5)) else (sy_bd (m7_noteBy a1 a2 σ5) (fun r8 σ7 => some (r8, σ7)))))))
set_option maxRecDepth 100000 in
set_option maxHeartbeats 4000000 in
theorem m7_note_ok (a1 : Int32) (a2 : Int32) (σ : St) : Cok sy_vi yX7_note cX7_note 3 (some .int) 4 [.ref 61, .int a1, .int a2] σ (m7_note a1 a2 σ) := by
  refine cok_of (own := RX7) (by decide) rfl (fun ad => Nat.le_of_ble_eq_true rfl) (fun κ hκ => ?_)
  show Ab sy_vi κ 0 [sy_vr 61, sy_vi a1, sy_vi a2] [] σ (m7_note a1 a2 σ)
  unfold m7_note
  refine ab_aload_n hκ dX7_note_0 rfl ?_
  refine ab_cVi (vs := []) (st := []) hκ dX7_note_1 kl_RX7_134 ki_X7_readsNotes kv_X7_readsNotes (sy_o7 rfl) rfl rfl (m7_readsNotes_ok σ) rfl (by decide) (Nat.le_of_ble_eq_true rfl) rfl (fun r2 σ1 => ?_)
  refine ab_popi hκ dX7_note_4 ?_
  refine ab_iload_n hκ dX7_note_5 rfl ?_
  refine ab_i2l hκ dX7_note_6 ?_
  refine ab_lconst (v := 0) hκ dX7_note_7 rfl ?_
  refine ab_ldc2 hκ dX7_note_8 kn_RX7_145 ?_
  refine ab_cSi (vs := [.long (Int32.toInt64 a1), .long 0, .long 15]) (st := []) hκ dX7_note_11 kl_RX7_76 ki_X7_in kv_X7_in (m7_in_ok (Int32.toInt64 a1) 0 15 σ1) rfl (by decide) (Nat.le_of_ble_eq_true rfl) rfl (fun r4 σ3 => ?_)
  refine ab_if_eq (tgt := 33) hκ dX7_note_14 rfl ?_ ?_
  · refine ab_bipush (v := (-2)) hκ dX7_note_33 rfl ?_
    exact ab_iret hκ dX7_note_35
  · refine ab_iload_n hκ dX7_note_17 rfl ?_
    refine ab_cSi (vs := [.int a2]) (st := []) hκ dX7_note_18 kl_RX7_104 ki_X7_isTwo kv_X7_isTwo (m7_isTwo_ok a2 σ3) rfl (by decide) (Nat.le_of_ble_eq_true rfl) rfl (fun r6 σ5 => ?_)
    refine ab_if_eq (tgt := 33) hκ dX7_note_21 rfl ?_ ?_
    · refine ab_bipush (v := (-2)) hκ dX7_note_33 rfl ?_
      exact ab_iret hκ dX7_note_35
    · refine ab_aload_n hκ dX7_note_24 rfl ?_
      refine ab_iload_n hκ dX7_note_25 rfl ?_
      refine ab_iload_n hκ dX7_note_26 rfl ?_
      refine ab_cVi (vs := [.int a1, .int a2]) (st := []) hκ dX7_note_27 kl_RX7_147 ki_X7_noteBy kv_X7_noteBy (sy_o7 rfl) rfl rfl (m7_noteBy_ok a1 a2 σ5) rfl (by decide) (Nat.le_of_ble_eq_true rfl) rfl (fun r8 σ7 => ?_)
      refine ab_goto (tgt := 35) hκ dX7_note_30 rfl ?_
      exact ab_iret hκ dX7_note_35
-- BreathBandModel.bag(I)I, depth 1
def m7_bag (a1 : Int32) (σ : St) : Option (Int32 × St) := sy_bd (m7_in (Int32.toInt64 a1) 1 99 σ) (fun r2 σ1 => if r2 = 0 then (some ((-2), σ1)) else (sy_lt (σ1 61 11) (fun v3 => sy_lt (sy_sf σ1 61 11 a1) (fun σ4 => some (v3, σ4)))))
set_option maxRecDepth 100000 in
set_option maxHeartbeats 4000000 in
theorem m7_bag_ok (a1 : Int32) (σ : St) : Cok sy_vi yX7_bag cX7_bag 3 (some .int) 1 [.ref 61, .int a1] σ (m7_bag a1 σ) := by
  refine cok_of (own := RX7) (by decide) rfl (fun ad => Nat.le_of_ble_eq_true rfl) (fun κ hκ => ?_)
  show Ab sy_vi κ 0 [sy_vr 61, sy_vi a1, none] [] σ (m7_bag a1 σ)
  unfold m7_bag
  refine ab_iload_n hκ dX7_bag_0 rfl ?_
  refine ab_i2l hκ dX7_bag_1 ?_
  refine ab_lconst (v := 1) hκ dX7_bag_2 rfl ?_
  refine ab_ldc2 hκ dX7_bag_3 kn_RX7_150 ?_
  refine ab_cSi (vs := [.long (Int32.toInt64 a1), .long 1, .long 99]) (st := []) hκ dX7_bag_6 kl_RX7_76 ki_X7_in kv_X7_in (m7_in_ok (Int32.toInt64 a1) 1 99 σ) rfl (by decide) (Nat.le_of_ble_eq_true rfl) rfl (fun r2 σ1 => ?_)
  refine ab_if_ne (tgt := 15) hκ dX7_bag_9 rfl ?_ ?_
  · refine ab_aload_n hκ dX7_bag_15 rfl ?_
    refine ab_getf (v := .int (σ1 61 11)) hκ (sy_o7 rfl) kf_RX7_67 rfl dX7_bag_16 rfl ?_
    refine ab_lti (fun v3 => ?_)
    refine ab_istore_n (lv' := [sy_vr 61, sy_vi a1, sy_vi v3]) hκ dX7_bag_19 rfl (by decide) rfl ?_
    refine ab_aload_n hκ dX7_bag_20 rfl ?_
    refine ab_iload_n hκ dX7_bag_21 rfl ?_
    refine ab_putf hκ (sy_o7 rfl) kp_RX7_67 rfl dX7_bag_22 ?_
    refine ab_lts (fun σ4 => ?_)
    refine ab_iload_n hκ dX7_bag_25 rfl ?_
    exact ab_iret hκ dX7_bag_26
  · refine ab_bipush (v := (-2)) hκ dX7_bag_12 rfl ?_
    exact ab_iret hκ dX7_bag_14
-- BreathBandModel.isBeat(I)Z, depth 1
def m7_isBeat (a1 : Int32) (σ : St) : Option (Int32 × St) := sy_bd (m7_in (Int32.toInt64 a1) 0 23 σ) (fun r2 σ1 => sy_zg r2 (some (r2, σ1)))
set_option maxRecDepth 100000 in
set_option maxHeartbeats 4000000 in
theorem m7_isBeat_ok (a1 : Int32) (σ : St) : Cok sy_vi yX7_isBeat cX7_isBeat 1 (some .boolean) 1 [.int a1] σ (m7_isBeat a1 σ) := by
  refine cok_of (own := RX7) (by decide) rfl (fun ad => Nat.le_of_ble_eq_true rfl) (fun κ hκ => ?_)
  show Ab sy_vi κ 0 [sy_vi a1] [] σ (m7_isBeat a1 σ)
  unfold m7_isBeat
  refine ab_iload_n hκ dX7_isBeat_0 rfl ?_
  refine ab_i2l hκ dX7_isBeat_1 ?_
  refine ab_lconst (v := 0) hκ dX7_isBeat_2 rfl ?_
  refine ab_ldc2 hκ dX7_isBeat_3 kn_RX7_140 ?_
  refine ab_cSi (vs := [.long (Int32.toInt64 a1), .long 0, .long 23]) (st := []) hκ dX7_isBeat_6 kl_RX7_76 ki_X7_in kv_X7_in (m7_in_ok (Int32.toInt64 a1) 0 23 σ) rfl (by decide) (Nat.le_of_ble_eq_true rfl) rfl (fun r2 σ1 => ?_)
  exact ab_zret hκ dX7_isBeat_9
-- BreathBandModel.event(II)I, depth 2
def m7_event (a1 : Int32) (a2 : Int32) (σ : St) : Option (Int32 × St) := sy_bd (m7_in (Int32.toInt64 a1) 0 2 σ) (fun r2 σ1 => if r2 = 0 then (some ((-2), σ1)) else (sy_bd (m7_isBeat a2 σ1) (fun r4 σ3 => if r4 = 0 then (some ((-2), σ3)) else (if (σ3 61 12) = 8 then (some ((-4), σ3)) else (sy_gd (2 * (σ3 61 12)) 16 (sy_lt (sy_sf σ3 70 (sy_ix (2 * (σ3 61 12))) a1) (fun σ5 => sy_gd ((2 * (σ5 61 12)) + 1) 16 (sy_lt (sy_sf σ5 70 (sy_ix ((2 * (σ5 61 12)) + 1)) a2) (fun σ6 => sy_lt (sy_sf σ6 61 12 ((σ6 61 12) + 1)) (fun σ7 => some ((σ7 61 12), σ7)))))))))))
set_option maxRecDepth 100000 in
set_option maxHeartbeats 4000000 in
theorem m7_event_ok (a1 : Int32) (a2 : Int32) (σ : St) : Cok sy_vi yX7_event cX7_event 3 (some .int) 2 [.ref 61, .int a1, .int a2] σ (m7_event a1 a2 σ) := by
  refine cok_of (own := RX7) (by decide) rfl (fun ad => Nat.le_of_ble_eq_true rfl) (fun κ hκ => ?_)
  show Ab sy_vi κ 0 [sy_vr 61, sy_vi a1, sy_vi a2] [] σ (m7_event a1 a2 σ)
  unfold m7_event
  refine ab_iload_n hκ dX7_event_0 rfl ?_
  refine ab_i2l hκ dX7_event_1 ?_
  refine ab_lconst (v := 0) hκ dX7_event_2 rfl ?_
  refine ab_ldc2 hκ dX7_event_3 kn_RX7_89 ?_
  refine ab_cSi (vs := [.long (Int32.toInt64 a1), .long 0, .long 2]) (st := []) hκ dX7_event_6 kl_RX7_76 ki_X7_in kv_X7_in (m7_in_ok (Int32.toInt64 a1) 0 2 σ) rfl (by decide) (Nat.le_of_ble_eq_true rfl) rfl (fun r2 σ1 => ?_)
  refine ab_if_eq (tgt := 19) hκ dX7_event_9 rfl ?_ ?_
  · refine ab_bipush (v := (-2)) hκ dX7_event_19 rfl ?_
    exact ab_iret hκ dX7_event_21
  · refine ab_iload_n hκ dX7_event_12 rfl ?_
    refine ab_cSi (vs := [.int a2]) (st := []) hκ dX7_event_13 kl_RX7_152 ki_X7_isBeat kv_X7_isBeat (m7_isBeat_ok a2 σ1) rfl (by decide) (Nat.le_of_ble_eq_true rfl) rfl (fun r4 σ3 => ?_)
    refine ab_if_ne (tgt := 22) hκ dX7_event_16 rfl ?_ ?_
    · refine ab_aload_n hκ dX7_event_22 rfl ?_
      refine ab_getf (v := .int (σ3 61 12)) hκ (sy_o7 rfl) kf_RX7_155 rfl dX7_event_23 rfl ?_
      refine ab_bipush (v := 8) hκ dX7_event_26 rfl ?_
      refine ab_icmp_ne (tgt := 34) hκ dX7_event_28 rfl ?_ ?_
      · refine ab_aload_n hκ dX7_event_34 rfl ?_
        refine ab_getf (v := .ref 70) hκ (sy_o7 rfl) kf_RX7_34 rfl dX7_event_35 rfl ?_
        refine ab_iconst (v := 2) hκ dX7_event_38 rfl ?_
        refine ab_aload_n hκ dX7_event_39 rfl ?_
        refine ab_getf (v := .int (σ3 61 12)) hκ (sy_o7 rfl) kf_RX7_155 rfl dX7_event_40 rfl ?_
        refine ab_imul hκ dX7_event_43 ?_
        refine ab_iload_n hκ dX7_event_44 rfl ?_
        refine ab_iast hκ rfl dX7_event_45 ?_
        refine ab_lts (fun σ5 => ?_)
        refine ab_aload_n hκ dX7_event_46 rfl ?_
        refine ab_getf (v := .ref 70) hκ (sy_o7 rfl) kf_RX7_34 rfl dX7_event_47 rfl ?_
        refine ab_iconst (v := 2) hκ dX7_event_50 rfl ?_
        refine ab_aload_n hκ dX7_event_51 rfl ?_
        refine ab_getf (v := .int (σ5 61 12)) hκ (sy_o7 rfl) kf_RX7_155 rfl dX7_event_52 rfl ?_
        refine ab_imul hκ dX7_event_55 ?_
        refine ab_iconst (v := 1) hκ dX7_event_56 rfl ?_
        refine ab_iadd hκ dX7_event_57 ?_
        refine ab_iload_n hκ dX7_event_58 rfl ?_
        refine ab_iast hκ rfl dX7_event_59 ?_
        refine ab_lts (fun σ6 => ?_)
        refine ab_aload_n hκ dX7_event_60 rfl ?_
        refine ab_dupa hκ dX7_event_61 ?_
        refine ab_getf (v := .int (σ6 61 12)) hκ (sy_o7 rfl) kf_RX7_155 rfl dX7_event_62 rfl ?_
        refine ab_iconst (v := 1) hκ dX7_event_65 rfl ?_
        refine ab_iadd hκ dX7_event_66 ?_
        refine ab_putf hκ (sy_o7 rfl) kp_RX7_155 rfl dX7_event_67 ?_
        refine ab_lts (fun σ7 => ?_)
        refine ab_aload_n hκ dX7_event_70 rfl ?_
        refine ab_getf (v := .int (σ7 61 12)) hκ (sy_o7 rfl) kf_RX7_155 rfl dX7_event_71 rfl ?_
        exact ab_iret hκ dX7_event_74
      · refine ab_bipush (v := (-4)) hκ dX7_event_31 rfl ?_
        exact ab_iret hκ dX7_event_33
    · refine ab_bipush (v := (-2)) hκ dX7_event_19 rfl ?_
      exact ab_iret hκ dX7_event_21
-- BreathBandModel.back()I, depth 0
def m7_back (σ : St) : Option (Int32 × St) := if (σ 61 12) = 0 then (some ((-3), σ)) else (sy_lt (sy_sf σ 61 12 ((σ 61 12) - 1)) (fun σ1 => some ((σ1 61 12), σ1)))
set_option maxRecDepth 100000 in
set_option maxHeartbeats 4000000 in
theorem m7_back_ok (σ : St) : Cok sy_vi yX7_back cX7_back 1 (some .int) 0 [.ref 61] σ (m7_back σ) := by
  refine cok_of (own := RX7) (by decide) rfl (fun ad => Nat.le_of_ble_eq_true rfl) (fun κ hκ => ?_)
  show Ab sy_vi κ 0 [sy_vr 61] [] σ (m7_back σ)
  unfold m7_back
  refine ab_aload_n hκ dX7_back_0 rfl ?_
  refine ab_getf (v := .int (σ 61 12)) hκ (sy_o7 rfl) kf_RX7_155 rfl dX7_back_1 rfl ?_
  refine ab_if_ne (tgt := 10) hκ dX7_back_4 rfl ?_ ?_
  · refine ab_aload_n hκ dX7_back_10 rfl ?_
    refine ab_dupa hκ dX7_back_11 ?_
    refine ab_getf (v := .int (σ 61 12)) hκ (sy_o7 rfl) kf_RX7_155 rfl dX7_back_12 rfl ?_
    refine ab_iconst (v := 1) hκ dX7_back_15 rfl ?_
    refine ab_isub hκ dX7_back_16 ?_
    refine ab_putf hκ (sy_o7 rfl) kp_RX7_155 rfl dX7_back_17 ?_
    refine ab_lts (fun σ1 => ?_)
    refine ab_aload_n hκ dX7_back_20 rfl ?_
    refine ab_getf (v := .int (σ1 61 12)) hκ (sy_o7 rfl) kf_RX7_155 rfl dX7_back_21 rfl ?_
    exact ab_iret hκ dX7_back_24
  · refine ab_bipush (v := (-3)) hκ dX7_back_7 rfl ?_
    exact ab_iret hκ dX7_back_9
-- BreathBandModel.isSheet(I)Z, depth 1
def m7_isSheet (a1 : Int32) (σ : St) : Option (Int32 × St) := sy_bd (m7_in (Int32.toInt64 a1) 0 3 σ) (fun r2 σ1 => sy_zg r2 (some (r2, σ1)))
set_option maxRecDepth 100000 in
set_option maxHeartbeats 4000000 in
theorem m7_isSheet_ok (a1 : Int32) (σ : St) : Cok sy_vi yX7_isSheet cX7_isSheet 1 (some .boolean) 1 [.int a1] σ (m7_isSheet a1 σ) := by
  refine cok_of (own := RX7) (by decide) rfl (fun ad => Nat.le_of_ble_eq_true rfl) (fun κ hκ => ?_)
  show Ab sy_vi κ 0 [sy_vi a1] [] σ (m7_isSheet a1 σ)
  unfold m7_isSheet
  refine ab_iload_n hκ dX7_isSheet_0 rfl ?_
  refine ab_i2l hκ dX7_isSheet_1 ?_
  refine ab_lconst (v := 0) hκ dX7_isSheet_2 rfl ?_
  refine ab_ldc2 hκ dX7_isSheet_3 kn_RX7_83 ?_
  refine ab_cSi (vs := [.long (Int32.toInt64 a1), .long 0, .long 3]) (st := []) hκ dX7_isSheet_6 kl_RX7_76 ki_X7_in kv_X7_in (m7_in_ok (Int32.toInt64 a1) 0 3 σ) rfl (by decide) (Nat.le_of_ble_eq_true rfl) rfl (fun r2 σ1 => ?_)
  exact ab_zret hκ dX7_isSheet_9
-- BreathBandModel.finds(I)I, depth 0
def m7_finds (a1 : Int32) (σ : St) : Option (Int32 × St) := sy_lt (sy_sf σ 61 4 a1) (fun σ1 => some (((-10) - a1), σ1))
set_option maxRecDepth 100000 in
set_option maxHeartbeats 4000000 in
theorem m7_finds_ok (a1 : Int32) (σ : St) : Cok sy_vi yX7_finds cX7_finds 2 (some .int) 0 [.ref 61, .int a1] σ (m7_finds a1 σ) := by
  refine cok_of (own := RX7) (by decide) rfl (fun ad => Nat.le_of_ble_eq_true rfl) (fun κ hκ => ?_)
  show Ab sy_vi κ 0 [sy_vr 61, sy_vi a1] [] σ (m7_finds a1 σ)
  unfold m7_finds
  refine ab_aload_n hκ dX7_finds_0 rfl ?_
  refine ab_iload_n hκ dX7_finds_1 rfl ?_
  refine ab_putf hκ (sy_o7 rfl) kp_RX7_80 rfl dX7_finds_2 ?_
  refine ab_lts (fun σ1 => ?_)
  refine ab_bipush (v := (-10)) hκ dX7_finds_5 rfl ?_
  refine ab_iload_n hκ dX7_finds_7 rfl ?_
  refine ab_isub hκ dX7_finds_8 ?_
  exact ab_iret hκ dX7_finds_9
-- BreathBandModel.read(I)I, depth 3
def m7_read_L29b (K29 : Int32 → Int32 → Int32 → St → Option (Int32 × St)) (E29_103 : Int32 → St → Option (Int32 × St)) (x3 : Int32) (x4 : Int32) (x5 : Int32) (σ : St) : Option (Int32 × St) := if x5 = 0 then (E29_103 x4 σ) else (sy_gd x3 4 (if (σ 63 (sy_ix x3)) < ((2 * x4) + 2) then (E29_103 x4 σ) else (sy_gd ((60 * x3) + (2 * x4)) 240 (sy_gd (((60 * x3) + (2 * x4)) + 1) 240 (sy_bd (m7_event (σ 64 (sy_ix ((60 * x3) + (2 * x4)))) (σ 64 (sy_ix (((60 * x3) + (2 * x4)) + 1))) σ) (fun r7 σ6 => if r7 < 0 then (if (0 : Int32) = 0 then (sy_lt (x4 + 0) (fun v8 => K29 x3 v8 0 σ6)) else (sy_lt (x4 + 1) (fun v9 => K29 x3 v9 0 σ6))) else (if (1 : Int32) = 0 then (sy_lt (x4 + 0) (fun v10 => K29 x3 v10 1 σ6)) else (sy_lt (x4 + 1) (fun v11 => K29 x3 v11 1 σ6)))))))))
def m7_read_L29 (E29_103 : Int32 → St → Option (Int32 × St)) : Nat → Int32 → Int32 → Int32 → St → Option (Int32 × St)
  | 0 => fun _ _ _ _ => none
  | n + 1 => m7_read_L29b  (m7_read_L29  E29_103 n) E29_103
set_option maxRecDepth 100000 in
set_option maxHeartbeats 4000000 in
theorem m7_read_L29b_ok {κ : Kx} (hκ : Gd κ cX7_read 4 RX7 (some .int) 3) {K29 : Int32 → Int32 → Int32 → St → Option (Int32 × St)} (hK29 : ∀ (x3 : Int32) (x4 : Int32) (x5 : Int32) (σ : St), Ab sy_vi κ 29 [sy_vr 61, sy_vi x3, sy_vi x4, sy_vi x5] [] σ (K29 x3 x4 x5 σ)) {E29_103 : Int32 → St → Option (Int32 × St)} (hE29_103 : ∀ (y2 : Int32) (σ : St), Ab sy_vi κ 103 [none, none, sy_vi y2, none] [] σ (E29_103 y2 σ)) (x3 : Int32) (x4 : Int32) (x5 : Int32) (σ : St) : Ab sy_vi κ 29 [sy_vr 61, sy_vi x3, sy_vi x4, sy_vi x5] [] σ (m7_read_L29b  K29 E29_103 x3 x4 x5 σ) := by
  unfold m7_read_L29b
  refine ab_iload_n hκ dX7_read_29 rfl ?_
  refine ab_if_eq (tgt := 103) hκ dX7_read_30 rfl ?_ ?_
  · refine ab_fg (lv' := [none, none, sy_vi x4, none]) [0, 1, 3] rfl ?_
    exact hE29_103 x4 σ
  · refine ab_iconst (v := 2) hκ dX7_read_33 rfl ?_
    refine ab_iload_n hκ dX7_read_34 rfl ?_
    refine ab_imul hκ dX7_read_35 ?_
    refine ab_iconst (v := 2) hκ dX7_read_36 rfl ?_
    refine ab_iadd hκ dX7_read_37 ?_
    refine ab_aload_n hκ dX7_read_38 rfl ?_
    refine ab_getf (v := .ref 63) hκ (sy_o7 rfl) kf_RX7_13 rfl dX7_read_39 rfl ?_
    refine ab_iload_n hκ dX7_read_42 rfl ?_
    refine ab_iald hκ rfl dX7_read_43 ?_
    refine ab_icmp_gt (tgt := 103) hκ dX7_read_44 rfl ?_ ?_
    · refine ab_fg (lv' := [none, none, sy_vi x4, none]) [0, 1, 3] rfl ?_
      exact hE29_103 x4 σ
    · refine ab_aload_n hκ dX7_read_47 rfl ?_
      refine ab_aload_n hκ dX7_read_48 rfl ?_
      refine ab_getf (v := .ref 64) hκ (sy_o7 rfl) kf_RX7_16 rfl dX7_read_49 rfl ?_
      refine ab_bipush (v := 60) hκ dX7_read_52 rfl ?_
      refine ab_iload_n hκ dX7_read_54 rfl ?_
      refine ab_imul hκ dX7_read_55 ?_
      refine ab_iconst (v := 2) hκ dX7_read_56 rfl ?_
      refine ab_iload_n hκ dX7_read_57 rfl ?_
      refine ab_imul hκ dX7_read_58 ?_
      refine ab_iadd hκ dX7_read_59 ?_
      refine ab_iald hκ rfl dX7_read_60 ?_
      refine ab_aload_n hκ dX7_read_61 rfl ?_
      refine ab_getf (v := .ref 64) hκ (sy_o7 rfl) kf_RX7_16 rfl dX7_read_62 rfl ?_
      refine ab_bipush (v := 60) hκ dX7_read_65 rfl ?_
      refine ab_iload_n hκ dX7_read_67 rfl ?_
      refine ab_imul hκ dX7_read_68 ?_
      refine ab_iconst (v := 2) hκ dX7_read_69 rfl ?_
      refine ab_iload_n hκ dX7_read_70 rfl ?_
      refine ab_imul hκ dX7_read_71 ?_
      refine ab_iadd hκ dX7_read_72 ?_
      refine ab_iconst (v := 1) hκ dX7_read_73 rfl ?_
      refine ab_iadd hκ dX7_read_74 ?_
      refine ab_iald hκ rfl dX7_read_75 ?_
      refine ab_cVi (vs := [.int (σ 64 (sy_ix ((60 * x3) + (2 * x4)))), .int (σ 64 (sy_ix (((60 * x3) + (2 * x4)) + 1)))]) (st := []) hκ dX7_read_76 kl_RX7_158 ki_X7_event kv_X7_event (sy_o7 rfl) rfl rfl (m7_event_ok (σ 64 (sy_ix ((60 * x3) + (2 * x4)))) (σ 64 (sy_ix (((60 * x3) + (2 * x4)) + 1))) σ) rfl (by decide) (Nat.le_of_ble_eq_true rfl) rfl (fun r7 σ6 => ?_)
      refine ab_if_lt (tgt := 86) hκ dX7_read_79 rfl ?_ ?_
      · refine ab_iconst (v := 0) hκ dX7_read_86 rfl ?_
        refine ab_istore_n (lv' := [sy_vr 61, sy_vi x3, sy_vi x4, sy_vi 0]) hκ dX7_read_87 rfl (by decide) rfl ?_
        refine ab_iload_n hκ dX7_read_88 rfl ?_
        refine ab_iload_n hκ dX7_read_89 rfl ?_
        refine ab_if_eq (tgt := 97) hκ dX7_read_90 rfl ?_ ?_
        · refine ab_iconst (v := 0) hκ dX7_read_97 rfl ?_
          refine ab_iadd hκ dX7_read_98 ?_
          refine ab_lti (fun v8 => ?_)
          refine ab_istore_n (lv' := [sy_vr 61, sy_vi x3, sy_vi v8, sy_vi 0]) hκ dX7_read_99 rfl (by decide) rfl ?_
          refine ab_goto (tgt := 29) hκ dX7_read_100 rfl ?_
          exact hK29 x3 v8 0 σ6
        · refine ab_iconst (v := 1) hκ dX7_read_93 rfl ?_
          refine ab_goto (tgt := 98) hκ dX7_read_94 rfl ?_
          refine ab_iadd hκ dX7_read_98 ?_
          refine ab_lti (fun v9 => ?_)
          refine ab_istore_n (lv' := [sy_vr 61, sy_vi x3, sy_vi v9, sy_vi 0]) hκ dX7_read_99 rfl (by decide) rfl ?_
          refine ab_goto (tgt := 29) hκ dX7_read_100 rfl ?_
          exact hK29 x3 v9 0 σ6
      · refine ab_iconst (v := 1) hκ dX7_read_82 rfl ?_
        refine ab_goto (tgt := 87) hκ dX7_read_83 rfl ?_
        refine ab_istore_n (lv' := [sy_vr 61, sy_vi x3, sy_vi x4, sy_vi 1]) hκ dX7_read_87 rfl (by decide) rfl ?_
        refine ab_iload_n hκ dX7_read_88 rfl ?_
        refine ab_iload_n hκ dX7_read_89 rfl ?_
        refine ab_if_eq (tgt := 97) hκ dX7_read_90 rfl ?_ ?_
        · refine ab_iconst (v := 0) hκ dX7_read_97 rfl ?_
          refine ab_iadd hκ dX7_read_98 ?_
          refine ab_lti (fun v10 => ?_)
          refine ab_istore_n (lv' := [sy_vr 61, sy_vi x3, sy_vi v10, sy_vi 1]) hκ dX7_read_99 rfl (by decide) rfl ?_
          refine ab_goto (tgt := 29) hκ dX7_read_100 rfl ?_
          exact hK29 x3 v10 1 σ6
        · refine ab_iconst (v := 1) hκ dX7_read_93 rfl ?_
          refine ab_goto (tgt := 98) hκ dX7_read_94 rfl ?_
          refine ab_iadd hκ dX7_read_98 ?_
          refine ab_lti (fun v11 => ?_)
          refine ab_istore_n (lv' := [sy_vr 61, sy_vi x3, sy_vi v11, sy_vi 1]) hκ dX7_read_99 rfl (by decide) rfl ?_
          refine ab_goto (tgt := 29) hκ dX7_read_100 rfl ?_
          exact hK29 x3 v11 1 σ6
theorem m7_read_L29_ok {κ : Kx} (hκ : Gd κ cX7_read 4 RX7 (some .int) 3) {E29_103 : Int32 → St → Option (Int32 × St)} (hE29_103 : ∀ (y2 : Int32) (σ : St), Ab sy_vi κ 103 [none, none, sy_vi y2, none] [] σ (E29_103 y2 σ)) : ∀ (n : Nat) (x3 : Int32) (x4 : Int32) (x5 : Int32) (σ : St), Ab sy_vi κ 29 [sy_vr 61, sy_vi x3, sy_vi x4, sy_vi x5] [] σ (m7_read_L29  E29_103 n x3 x4 x5 σ) := by
  intro n
  induction n with
  | zero => intros; exact ab_none
  | succ n ih => exact fun x3 x4 x5 σ => m7_read_L29b_ok hκ   ih hE29_103 x3 x4 x5 σ
def m7_read (a1 : Int32) (σ : St) : Option (Int32 × St) := sy_bd (m7_isSheet a1 σ) (fun r2 σ1 => if r2 = 0 then (some ((-2), σ1)) else (sy_gd a1 4 (if 0 ≤ (σ1 62 (sy_ix a1)) then (m7_read_L29 (fun y12 σ13 => some (y12, σ13)) sy_FU a1 0 1 σ1) else (sy_bd (m7_finds 1 σ1) (fun r15 σ14 => some (r15, σ14))))))
set_option maxRecDepth 100000 in
set_option maxHeartbeats 4000000 in
theorem m7_read_ok (a1 : Int32) (σ : St) : Cok sy_vi yX7_read cX7_read 4 (some .int) 3 [.ref 61, .int a1] σ (m7_read a1 σ) := by
  refine cok_of (own := RX7) (by decide) rfl (fun ad => Nat.le_of_ble_eq_true rfl) (fun κ hκ => ?_)
  show Ab sy_vi κ 0 [sy_vr 61, sy_vi a1, none, none] [] σ (m7_read a1 σ)
  unfold m7_read
  refine ab_iload_n hκ dX7_read_0 rfl ?_
  refine ab_cSi (vs := [.int a1]) (st := []) hκ dX7_read_1 kl_RX7_85 ki_X7_isSheet kv_X7_isSheet (m7_isSheet_ok a1 σ) rfl (by decide) (Nat.le_of_ble_eq_true rfl) rfl (fun r2 σ1 => ?_)
  refine ab_if_ne (tgt := 10) hκ dX7_read_4 rfl ?_ ?_
  · refine ab_aload_n hκ dX7_read_10 rfl ?_
    refine ab_getf (v := .ref 62) hκ (sy_o7 rfl) kf_RX7_7 rfl dX7_read_11 rfl ?_
    refine ab_iload_n hκ dX7_read_14 rfl ?_
    refine ab_iald hκ rfl dX7_read_15 ?_
    refine ab_if_ge (tgt := 25) hκ dX7_read_16 rfl ?_ ?_
    · refine ab_iconst (v := 0) hκ dX7_read_25 rfl ?_
      refine ab_istore_n (lv' := [sy_vr 61, sy_vi a1, sy_vi 0, none]) hκ dX7_read_26 rfl (by decide) rfl ?_
      refine ab_iconst (v := 1) hκ dX7_read_27 rfl ?_
      refine ab_istore_n (lv' := [sy_vr 61, sy_vi a1, sy_vi 0, sy_vi 1]) hκ dX7_read_28 rfl (by decide) rfl ?_
      refine m7_read_L29_ok hκ ?_ _ _ _ _ _
      · intro y12 σ13
        refine ab_iload_n hκ dX7_read_103 rfl ?_
        exact ab_iret hκ dX7_read_104
    · refine ab_aload_n hκ dX7_read_19 rfl ?_
      refine ab_iconst (v := 1) hκ dX7_read_20 rfl ?_
      refine ab_cVi (vs := [.int 1]) (st := []) hκ dX7_read_21 kl_RX7_91 ki_X7_finds kv_X7_finds (sy_o7 rfl) rfl rfl (m7_finds_ok 1 σ1) rfl (by decide) (Nat.le_of_ble_eq_true rfl) rfl (fun r15 σ14 => ?_)
      exact ab_iret hκ dX7_read_24
  · refine ab_bipush (v := (-2)) hκ dX7_read_7 rfl ?_
    exact ab_iret hκ dX7_read_9
-- BreathBandModel.seats()V, depth 0
def m7_seats_L2b (K2 : Int32 → St → Option (Unit × St)) (E2_21 : St → Option (Unit × St)) (x1 : Int32) (σ : St) : Option (Unit × St) := if 11 ≤ x1 then (E2_21  σ) else (sy_gd x1 11 (sy_lt (sy_sf σ 78 (sy_ix x1) x1) (fun σ2 => K2 (x1 + 1) σ2)))
def m7_seats_L2 (E2_21 : St → Option (Unit × St)) : Nat → Int32 → St → Option (Unit × St)
  | 0 => fun _ _ => none
  | n + 1 => m7_seats_L2b  (m7_seats_L2  E2_21 n) E2_21
set_option maxRecDepth 100000 in
set_option maxHeartbeats 4000000 in
theorem m7_seats_L2b_ok {κ : Kx} (hκ : Gd κ cX7_seats 2 RX7 none 0) {K2 : Int32 → St → Option (Unit × St)} (hK2 : ∀ (x1 : Int32) (σ : St), Ab sy_cu κ 2 [sy_vr 61, sy_vi x1] [] σ (K2 x1 σ)) {E2_21 : St → Option (Unit × St)} (hE2_21 : ∀ (σ : St), Ab sy_cu κ 21 [none, none] [] σ (E2_21  σ)) (x1 : Int32) (σ : St) : Ab sy_cu κ 2 [sy_vr 61, sy_vi x1] [] σ (m7_seats_L2b  K2 E2_21 x1 σ) := by
  unfold m7_seats_L2b
  refine ab_iload_n hκ dX7_seats_2 rfl ?_
  refine ab_bipush (v := 11) hκ dX7_seats_3 rfl ?_
  refine ab_icmp_ge (tgt := 21) hκ dX7_seats_5 rfl ?_ ?_
  · refine ab_fg (lv' := [none, none]) [0, 1] rfl ?_
    exact hE2_21  σ
  · refine ab_aload_n hκ dX7_seats_8 rfl ?_
    refine ab_getf (v := .ref 78) hκ (sy_o7 rfl) kf_RX7_58 rfl dX7_seats_9 rfl ?_
    refine ab_iload_n hκ dX7_seats_12 rfl ?_
    refine ab_iload_n hκ dX7_seats_13 rfl ?_
    refine ab_iast hκ rfl dX7_seats_14 ?_
    refine ab_lts (fun σ2 => ?_)
    refine ab_iinc (v := (x1 + 1)) (lv' := [sy_vr 61, sy_vi (x1 + 1)]) hκ dX7_seats_15 rfl rfl (by decide) rfl ?_
    refine ab_goto (tgt := 2) hκ dX7_seats_18 rfl ?_
    exact hK2 (x1 + 1) σ2
theorem m7_seats_L2_ok {κ : Kx} (hκ : Gd κ cX7_seats 2 RX7 none 0) {E2_21 : St → Option (Unit × St)} (hE2_21 : ∀ (σ : St), Ab sy_cu κ 21 [none, none] [] σ (E2_21  σ)) : ∀ (n : Nat) (x1 : Int32) (σ : St), Ab sy_cu κ 2 [sy_vr 61, sy_vi x1] [] σ (m7_seats_L2  E2_21 n x1 σ) := by
  intro n
  induction n with
  | zero => intros; exact ab_none
  | succ n ih => exact fun x1 σ => m7_seats_L2b_ok hκ   ih hE2_21 x1 σ
def m7_seats (σ : St) : Option (Unit × St) := m7_seats_L2 (fun  σ3 => some ((), σ3)) sy_FU 0 σ
set_option maxRecDepth 100000 in
set_option maxHeartbeats 4000000 in
theorem m7_seats_ok (σ : St) : Cok sy_cu yX7_seats cX7_seats 2 none 0 [.ref 61] σ (m7_seats σ) := by
  refine cok_of (own := RX7) (by decide) rfl (fun ad => Nat.le_of_ble_eq_true rfl) (fun κ hκ => ?_)
  show Ab sy_cu κ 0 [sy_vr 61, none] [] σ (m7_seats σ)
  unfold m7_seats
  refine ab_iconst (v := 0) hκ dX7_seats_0 rfl ?_
  refine ab_istore_n (lv' := [sy_vr 61, sy_vi 0]) hκ dX7_seats_1 rfl (by decide) rfl ?_
  refine m7_seats_L2_ok hκ ?_ _ _ _
  · intro  σ3
    exact ab_vret hκ dX7_seats_21
-- BreathBandModel.isIn(II)Z, depth 0
def m7_isIn (a1 : Int32) (a2 : Int32) (σ : St) : Option (Int32 × St) := if ((a1 >>> (a2 &&& 31)) &&& 1) = 1 then (sy_zg 1 (some (1, σ))) else (sy_zg 0 (some (0, σ)))
set_option maxRecDepth 100000 in
set_option maxHeartbeats 4000000 in
theorem m7_isIn_ok (a1 : Int32) (a2 : Int32) (σ : St) : Cok sy_vi yX7_isIn cX7_isIn 2 (some .boolean) 0 [.int a1, .int a2] σ (m7_isIn a1 a2 σ) := by
  refine cok_of (own := RX7) (by decide) rfl (fun ad => Nat.le_of_ble_eq_true rfl) (fun κ hκ => ?_)
  show Ab sy_vi κ 0 [sy_vi a1, sy_vi a2] [] σ (m7_isIn a1 a2 σ)
  unfold m7_isIn
  refine ab_iload_n hκ dX7_isIn_0 rfl ?_
  refine ab_iload_n hκ dX7_isIn_1 rfl ?_
  refine ab_ishr hκ dX7_isIn_2 ?_
  refine ab_iconst (v := 1) hκ dX7_isIn_3 rfl ?_
  refine ab_iand hκ dX7_isIn_4 ?_
  refine ab_iconst (v := 1) hκ dX7_isIn_5 rfl ?_
  refine ab_icmp_ne (tgt := 13) hκ dX7_isIn_6 rfl ?_ ?_
  · refine ab_iconst (v := 0) hκ dX7_isIn_13 rfl ?_
    exact ab_zret hκ dX7_isIn_14
  · refine ab_iconst (v := 1) hκ dX7_isIn_9 rfl ?_
    refine ab_goto (tgt := 14) hκ dX7_isIn_10 rfl ?_
    exact ab_zret hκ dX7_isIn_14
-- BreathBandModel.many(II)I, depth 1
def m7_many_L5b (K5 : Int32 → Int32 → Int32 → Int32 → St → Option (Int32 × St)) (E5_68 : Int32 → St → Option (Int32 × St)) (x1 : Int32) (x2 : Int32) (x3 : Int32) (x4 : Int32) (σ : St) : Option (Int32 × St) := if (σ 61 12) ≤ x4 then (E5_68 x3 σ) else (sy_gd (2 * x4) 16 (if (σ 70 (sy_ix (2 * x4))) = x1 then (sy_gd ((2 * x4) + 1) 16 (if (σ 70 (sy_ix ((2 * x4) + 1))) = x2 then (sy_bd (m7_isIn (σ 61 14) x4 σ) (fun r8 σ7 => if r8 = 0 then (sy_lt (x3 + 1) (fun v10 => K5 x1 x2 v10 (x4 + 1) σ7)) else (sy_lt (x3 + 0) (fun v9 => K5 x1 x2 v9 (x4 + 1) σ7)))) else (sy_lt (x3 + 0) (fun v6 => K5 x1 x2 v6 (x4 + 1) σ)))) else (sy_lt (x3 + 0) (fun v5 => K5 x1 x2 v5 (x4 + 1) σ))))
def m7_many_L5 (E5_68 : Int32 → St → Option (Int32 × St)) : Nat → Int32 → Int32 → Int32 → Int32 → St → Option (Int32 × St)
  | 0 => fun _ _ _ _ _ => none
  | n + 1 => m7_many_L5b  (m7_many_L5  E5_68 n) E5_68
set_option maxRecDepth 100000 in
set_option maxHeartbeats 4000000 in
theorem m7_many_L5b_ok {κ : Kx} (hκ : Gd κ cX7_many 5 RX7 (some .int) 1) {K5 : Int32 → Int32 → Int32 → Int32 → St → Option (Int32 × St)} (hK5 : ∀ (x1 : Int32) (x2 : Int32) (x3 : Int32) (x4 : Int32) (σ : St), Ab sy_vi κ 5 [sy_vr 61, sy_vi x1, sy_vi x2, sy_vi x3, sy_vi x4] [] σ (K5 x1 x2 x3 x4 σ)) {E5_68 : Int32 → St → Option (Int32 × St)} (hE5_68 : ∀ (y3 : Int32) (σ : St), Ab sy_vi κ 68 [none, none, none, sy_vi y3, none] [] σ (E5_68 y3 σ)) (x1 : Int32) (x2 : Int32) (x3 : Int32) (x4 : Int32) (σ : St) : Ab sy_vi κ 5 [sy_vr 61, sy_vi x1, sy_vi x2, sy_vi x3, sy_vi x4] [] σ (m7_many_L5b  K5 E5_68 x1 x2 x3 x4 σ) := by
  unfold m7_many_L5b
  refine ab_iload hκ dX7_many_5 rfl ?_
  refine ab_aload_n hκ dX7_many_7 rfl ?_
  refine ab_getf (v := .int (σ 61 12)) hκ (sy_o7 rfl) kf_RX7_155 rfl dX7_many_8 rfl ?_
  refine ab_icmp_ge (tgt := 68) hκ dX7_many_11 rfl ?_ ?_
  · refine ab_fg (lv' := [none, none, none, sy_vi x3, none]) [0, 1, 2, 4] rfl ?_
    exact hE5_68 x3 σ
  · refine ab_iload_n hκ dX7_many_14 rfl ?_
    refine ab_aload_n hκ dX7_many_15 rfl ?_
    refine ab_getf (v := .ref 70) hκ (sy_o7 rfl) kf_RX7_34 rfl dX7_many_16 rfl ?_
    refine ab_iconst (v := 2) hκ dX7_many_19 rfl ?_
    refine ab_iload hκ dX7_many_20 rfl ?_
    refine ab_imul hκ dX7_many_22 ?_
    refine ab_iald hκ rfl dX7_many_23 ?_
    refine ab_iload_n hκ dX7_many_24 rfl ?_
    refine ab_icmp_ne (tgt := 59) hκ dX7_many_25 rfl ?_ ?_
    · refine ab_iconst (v := 0) hκ dX7_many_59 rfl ?_
      refine ab_iadd hκ dX7_many_60 ?_
      refine ab_lti (fun v5 => ?_)
      refine ab_istore_n (lv' := [sy_vr 61, sy_vi x1, sy_vi x2, sy_vi v5, sy_vi x4]) hκ dX7_many_61 rfl (by decide) rfl ?_
      refine ab_iinc (v := (x4 + 1)) (lv' := [sy_vr 61, sy_vi x1, sy_vi x2, sy_vi v5, sy_vi (x4 + 1)]) hκ dX7_many_62 rfl rfl (by decide) rfl ?_
      refine ab_goto (tgt := 5) hκ dX7_many_65 rfl ?_
      exact hK5 x1 x2 v5 (x4 + 1) σ
    · refine ab_aload_n hκ dX7_many_28 rfl ?_
      refine ab_getf (v := .ref 70) hκ (sy_o7 rfl) kf_RX7_34 rfl dX7_many_29 rfl ?_
      refine ab_iconst (v := 2) hκ dX7_many_32 rfl ?_
      refine ab_iload hκ dX7_many_33 rfl ?_
      refine ab_imul hκ dX7_many_35 ?_
      refine ab_iconst (v := 1) hκ dX7_many_36 rfl ?_
      refine ab_iadd hκ dX7_many_37 ?_
      refine ab_iald hκ rfl dX7_many_38 ?_
      refine ab_iload_n hκ dX7_many_39 rfl ?_
      refine ab_icmp_ne (tgt := 59) hκ dX7_many_40 rfl ?_ ?_
      · refine ab_iconst (v := 0) hκ dX7_many_59 rfl ?_
        refine ab_iadd hκ dX7_many_60 ?_
        refine ab_lti (fun v6 => ?_)
        refine ab_istore_n (lv' := [sy_vr 61, sy_vi x1, sy_vi x2, sy_vi v6, sy_vi x4]) hκ dX7_many_61 rfl (by decide) rfl ?_
        refine ab_iinc (v := (x4 + 1)) (lv' := [sy_vr 61, sy_vi x1, sy_vi x2, sy_vi v6, sy_vi (x4 + 1)]) hκ dX7_many_62 rfl rfl (by decide) rfl ?_
        refine ab_goto (tgt := 5) hκ dX7_many_65 rfl ?_
        exact hK5 x1 x2 v6 (x4 + 1) σ
      · refine ab_aload_n hκ dX7_many_43 rfl ?_
        refine ab_getf (v := .int (σ 61 14)) hκ (sy_o7 rfl) kf_RX7_160 rfl dX7_many_44 rfl ?_
        refine ab_iload hκ dX7_many_47 rfl ?_
        refine ab_cSi (vs := [.int (σ 61 14), .int x4]) (st := [.int x3]) hκ dX7_many_49 kl_RX7_163 ki_X7_isIn kv_X7_isIn (m7_isIn_ok (σ 61 14) x4 σ) rfl (by decide) (Nat.le_of_ble_eq_true rfl) rfl (fun r8 σ7 => ?_)
        refine ab_if_ne (tgt := 59) hκ dX7_many_52 rfl ?_ ?_
        · refine ab_iconst (v := 0) hκ dX7_many_59 rfl ?_
          refine ab_iadd hκ dX7_many_60 ?_
          refine ab_lti (fun v9 => ?_)
          refine ab_istore_n (lv' := [sy_vr 61, sy_vi x1, sy_vi x2, sy_vi v9, sy_vi x4]) hκ dX7_many_61 rfl (by decide) rfl ?_
          refine ab_iinc (v := (x4 + 1)) (lv' := [sy_vr 61, sy_vi x1, sy_vi x2, sy_vi v9, sy_vi (x4 + 1)]) hκ dX7_many_62 rfl rfl (by decide) rfl ?_
          refine ab_goto (tgt := 5) hκ dX7_many_65 rfl ?_
          exact hK5 x1 x2 v9 (x4 + 1) σ7
        · refine ab_iconst (v := 1) hκ dX7_many_55 rfl ?_
          refine ab_goto (tgt := 60) hκ dX7_many_56 rfl ?_
          refine ab_iadd hκ dX7_many_60 ?_
          refine ab_lti (fun v10 => ?_)
          refine ab_istore_n (lv' := [sy_vr 61, sy_vi x1, sy_vi x2, sy_vi v10, sy_vi x4]) hκ dX7_many_61 rfl (by decide) rfl ?_
          refine ab_iinc (v := (x4 + 1)) (lv' := [sy_vr 61, sy_vi x1, sy_vi x2, sy_vi v10, sy_vi (x4 + 1)]) hκ dX7_many_62 rfl rfl (by decide) rfl ?_
          refine ab_goto (tgt := 5) hκ dX7_many_65 rfl ?_
          exact hK5 x1 x2 v10 (x4 + 1) σ7
theorem m7_many_L5_ok {κ : Kx} (hκ : Gd κ cX7_many 5 RX7 (some .int) 1) {E5_68 : Int32 → St → Option (Int32 × St)} (hE5_68 : ∀ (y3 : Int32) (σ : St), Ab sy_vi κ 68 [none, none, none, sy_vi y3, none] [] σ (E5_68 y3 σ)) : ∀ (n : Nat) (x1 : Int32) (x2 : Int32) (x3 : Int32) (x4 : Int32) (σ : St), Ab sy_vi κ 5 [sy_vr 61, sy_vi x1, sy_vi x2, sy_vi x3, sy_vi x4] [] σ (m7_many_L5  E5_68 n x1 x2 x3 x4 σ) := by
  intro n
  induction n with
  | zero => intros; exact ab_none
  | succ n ih => exact fun x1 x2 x3 x4 σ => m7_many_L5b_ok hκ   ih hE5_68 x1 x2 x3 x4 σ
def m7_many (a1 : Int32) (a2 : Int32) (σ : St) : Option (Int32 × St) := m7_many_L5 (fun y11 σ12 => some (y11, σ12)) sy_FU a1 a2 0 0 σ
set_option maxRecDepth 100000 in
set_option maxHeartbeats 4000000 in
theorem m7_many_ok (a1 : Int32) (a2 : Int32) (σ : St) : Cok sy_vi yX7_many cX7_many 5 (some .int) 1 [.ref 61, .int a1, .int a2] σ (m7_many a1 a2 σ) := by
  refine cok_of (own := RX7) (by decide) rfl (fun ad => Nat.le_of_ble_eq_true rfl) (fun κ hκ => ?_)
  show Ab sy_vi κ 0 [sy_vr 61, sy_vi a1, sy_vi a2, none, none] [] σ (m7_many a1 a2 σ)
  unfold m7_many
  refine ab_iconst (v := 0) hκ dX7_many_0 rfl ?_
  refine ab_istore_n (lv' := [sy_vr 61, sy_vi a1, sy_vi a2, sy_vi 0, none]) hκ dX7_many_1 rfl (by decide) rfl ?_
  refine ab_iconst (v := 0) hκ dX7_many_2 rfl ?_
  refine ab_istore (lv' := [sy_vr 61, sy_vi a1, sy_vi a2, sy_vi 0, sy_vi 0]) hκ dX7_many_3 (by decide) rfl ?_
  refine m7_many_L5_ok hκ ?_ _ _ _ _ _ _
  · intro y11 σ12
    refine ab_iload_n hκ dX7_many_68 rfl ?_
    exact ab_iret hκ dX7_many_69
-- BreathBandModel.lesser(II)I, depth 0
def m7_lesser (a1 : Int32) (a2 : Int32) (σ : St) : Option (Int32 × St) := if a2 ≤ a1 then (some (a2, σ)) else (some (a1, σ))
set_option maxRecDepth 100000 in
set_option maxHeartbeats 4000000 in
theorem m7_lesser_ok (a1 : Int32) (a2 : Int32) (σ : St) : Cok sy_vi yX7_lesser cX7_lesser 2 (some .int) 0 [.int a1, .int a2] σ (m7_lesser a1 a2 σ) := by
  refine cok_of (own := RX7) (by decide) rfl (fun ad => Nat.le_of_ble_eq_true rfl) (fun κ hκ => ?_)
  show Ab sy_vi κ 0 [sy_vi a1, sy_vi a2] [] σ (m7_lesser a1 a2 σ)
  unfold m7_lesser
  refine ab_iload_n hκ dX7_lesser_0 rfl ?_
  refine ab_iload_n hκ dX7_lesser_1 rfl ?_
  refine ab_icmp_ge (tgt := 9) hκ dX7_lesser_2 rfl ?_ ?_
  · refine ab_iload_n hκ dX7_lesser_9 rfl ?_
    exact ab_iret hκ dX7_lesser_10
  · refine ab_iload_n hκ dX7_lesser_5 rfl ?_
    refine ab_goto (tgt := 10) hκ dX7_lesser_6 rfl ?_
    exact ab_iret hκ dX7_lesser_10
-- BreathBandModel.apart(II)I, depth 0
def m7_apart (a1 : Int32) (a2 : Int32) (σ : St) : Option (Int32 × St) := if a1 ≤ a2 then (some ((a2 - a1), σ)) else (some ((a1 - a2), σ))
set_option maxRecDepth 100000 in
set_option maxHeartbeats 4000000 in
theorem m7_apart_ok (a1 : Int32) (a2 : Int32) (σ : St) : Cok sy_vi yX7_apart cX7_apart 2 (some .int) 0 [.int a1, .int a2] σ (m7_apart a1 a2 σ) := by
  refine cok_of (own := RX7) (by decide) rfl (fun ad => Nat.le_of_ble_eq_true rfl) (fun κ hκ => ?_)
  show Ab sy_vi κ 0 [sy_vi a1, sy_vi a2] [] σ (m7_apart a1 a2 σ)
  unfold m7_apart
  refine ab_iload_n hκ dX7_apart_0 rfl ?_
  refine ab_iload_n hκ dX7_apart_1 rfl ?_
  refine ab_icmp_le (tgt := 11) hκ dX7_apart_2 rfl ?_ ?_
  · refine ab_iload_n hκ dX7_apart_11 rfl ?_
    refine ab_iload_n hκ dX7_apart_12 rfl ?_
    refine ab_isub hκ dX7_apart_13 ?_
    exact ab_iret hκ dX7_apart_14
  · refine ab_iload_n hκ dX7_apart_5 rfl ?_
    refine ab_iload_n hκ dX7_apart_6 rfl ?_
    refine ab_isub hκ dX7_apart_7 ?_
    refine ab_goto (tgt := 14) hκ dX7_apart_8 rfl ?_
    exact ab_iret hκ dX7_apart_14
-- BreathBandModel.blows(I)V, depth 2
def m7_blows_J96 (x10 : Int32) (x11 : Int32) (x12 : Int32) (x13 : Int32)  (σ : St) : Option (Unit × St) := if x13 = 0 then (some ((), σ)) else (if (σ 61 17) < x12 then (some ((), σ)) else (sy_dv 2 (sy_lt (x12 - (x12 / 2)) (fun v14 => sy_lt (sy_sf σ 61 17 ((σ 61 17) - v14)) (fun σ15 => sy_gd x11 11 (sy_gd x11 11 (sy_lt (sy_sf σ15 76 (sy_ix x11) ((σ15 76 (sy_ix x11)) + v14)) (fun σ16 => sy_gd x11 11 (sy_gd x11 11 (sy_lt (sy_sf σ16 75 (sy_ix x11) ((σ16 75 (sy_ix x11)) + 1)) (fun σ17 => if 10 ≤ (σ17 61 17) then (sy_gd x10 16 (sy_lt (sy_sf σ17 74 (sy_ix x10) 2) (fun σ18 => some ((), σ18)))) else (sy_gd x10 16 (sy_lt (sy_sf σ17 74 (sy_ix x10) 1) (fun σ19 => some ((), σ19)))))))))))))))
set_option maxRecDepth 100000 in
set_option maxHeartbeats 4000000 in
theorem m7_blows_J96_ok {κ : Kx} (hκ : Gd κ cX7_blows 7 RX7 none 2) (x10 : Int32) (x11 : Int32) (x12 : Int32) (x13 : Int32) (σ : St) : Ab sy_cu κ 96 [sy_vr 61, sy_vi x10, sy_vi x11, none, sy_vi x12, none, none] [.int x13] σ (m7_blows_J96 x10 x11 x12 x13 σ) := by
  unfold m7_blows_J96
  refine ab_istore (lv' := [sy_vr 61, sy_vi x10, sy_vi x11, none, sy_vi x12, sy_vi x13, none]) hκ dX7_blows_96 (by decide) rfl ?_
  refine ab_iload hκ dX7_blows_98 rfl ?_
  refine ab_if_eq (tgt := 173) hκ dX7_blows_100 rfl ?_ ?_
  · exact ab_vret hκ dX7_blows_173
  · refine ab_aload_n hκ dX7_blows_103 rfl ?_
    refine ab_getf (v := .int (σ 61 17)) hκ (sy_o7 rfl) kf_RX7_173 rfl dX7_blows_104 rfl ?_
    refine ab_iload hκ dX7_blows_107 rfl ?_
    refine ab_icmp_lt (tgt := 173) hκ dX7_blows_109 rfl ?_ ?_
    · exact ab_vret hκ dX7_blows_173
    · refine ab_iload hκ dX7_blows_112 rfl ?_
      refine ab_iload hκ dX7_blows_114 rfl ?_
      refine ab_iconst (v := 2) hκ dX7_blows_116 rfl ?_
      refine ab_idiv hκ dX7_blows_117 ?_
      refine ab_isub hκ dX7_blows_118 ?_
      refine ab_lti (fun v14 => ?_)
      refine ab_istore (lv' := [sy_vr 61, sy_vi x10, sy_vi x11, none, sy_vi x12, sy_vi x13, sy_vi v14]) hκ dX7_blows_119 (by decide) rfl ?_
      refine ab_aload_n hκ dX7_blows_121 rfl ?_
      refine ab_dupa hκ dX7_blows_122 ?_
      refine ab_getf (v := .int (σ 61 17)) hκ (sy_o7 rfl) kf_RX7_173 rfl dX7_blows_123 rfl ?_
      refine ab_iload hκ dX7_blows_126 rfl ?_
      refine ab_isub hκ dX7_blows_128 ?_
      refine ab_putf hκ (sy_o7 rfl) kp_RX7_173 rfl dX7_blows_129 ?_
      refine ab_lts (fun σ15 => ?_)
      refine ab_aload_n hκ dX7_blows_132 rfl ?_
      refine ab_getf (v := .ref 76) hκ (sy_o7 rfl) kf_RX7_52 rfl dX7_blows_133 rfl ?_
      refine ab_iload_n hκ dX7_blows_136 rfl ?_
      refine ab_dup2 hκ dX7_blows_137 ?_
      refine ab_iald hκ rfl dX7_blows_138 ?_
      refine ab_iload hκ dX7_blows_139 rfl ?_
      refine ab_iadd hκ dX7_blows_141 ?_
      refine ab_iast hκ rfl dX7_blows_142 ?_
      refine ab_lts (fun σ16 => ?_)
      refine ab_aload_n hκ dX7_blows_143 rfl ?_
      refine ab_getf (v := .ref 75) hκ (sy_o7 rfl) kf_RX7_49 rfl dX7_blows_144 rfl ?_
      refine ab_iload_n hκ dX7_blows_147 rfl ?_
      refine ab_dup2 hκ dX7_blows_148 ?_
      refine ab_iald hκ rfl dX7_blows_149 ?_
      refine ab_iconst (v := 1) hκ dX7_blows_150 rfl ?_
      refine ab_iadd hκ dX7_blows_151 ?_
      refine ab_iast hκ rfl dX7_blows_152 ?_
      refine ab_lts (fun σ17 => ?_)
      refine ab_aload_n hκ dX7_blows_153 rfl ?_
      refine ab_getf (v := .ref 74) hκ (sy_o7 rfl) kf_RX7_46 rfl dX7_blows_154 rfl ?_
      refine ab_iload_n hκ dX7_blows_157 rfl ?_
      refine ab_aload_n hκ dX7_blows_158 rfl ?_
      refine ab_getf (v := .int (σ17 61 17)) hκ (sy_o7 rfl) kf_RX7_173 rfl dX7_blows_159 rfl ?_
      refine ab_bipush (v := 10) hκ dX7_blows_162 rfl ?_
      refine ab_icmp_ge (tgt := 171) hκ dX7_blows_164 rfl ?_ ?_
      · refine ab_iconst (v := 2) hκ dX7_blows_171 rfl ?_
        refine ab_iast hκ rfl dX7_blows_172 ?_
        refine ab_lts (fun σ18 => ?_)
        exact ab_vret hκ dX7_blows_173
      · refine ab_iconst (v := 1) hκ dX7_blows_167 rfl ?_
        refine ab_goto (tgt := 172) hκ dX7_blows_168 rfl ?_
        refine ab_iast hκ rfl dX7_blows_172 ?_
        refine ab_lts (fun σ19 => ?_)
        exact ab_vret hκ dX7_blows_173
def m7_blows_J54 (x6 : Int32) (x7 : Int32) (x8 : Int32) (x9 : Int32)  (σ : St) : Option (Unit × St) := sy_gd x7 11 (if (σ 78 (sy_ix x7)) = (σ 61 16) then (m7_blows_J96 x6 x7 x9 1 σ) else (if x8 = 2 then (sy_gd x7 11 (sy_bd (m7_apart (σ 78 (sy_ix x7)) (σ 61 16) σ) (fun r21 σ20 => if r21 = 1 then (m7_blows_J96 x6 x7 x9 1 σ20) else (m7_blows_J96 x6 x7 x9 0 σ20)))) else (m7_blows_J96 x6 x7 x9 0 σ)))
set_option maxRecDepth 100000 in
set_option maxHeartbeats 4000000 in
theorem m7_blows_J54_ok {κ : Kx} (hκ : Gd κ cX7_blows 7 RX7 none 2) (x6 : Int32) (x7 : Int32) (x8 : Int32) (x9 : Int32) (σ : St) : Ab sy_cu κ 54 [sy_vr 61, sy_vi x6, sy_vi x7, sy_vi x8, none, none, none] [.int x9] σ (m7_blows_J54 x6 x7 x8 x9 σ) := by
  unfold m7_blows_J54
  refine ab_istore (lv' := [sy_vr 61, sy_vi x6, sy_vi x7, sy_vi x8, sy_vi x9, none, none]) hκ dX7_blows_54 (by decide) rfl ?_
  refine ab_aload_n hκ dX7_blows_56 rfl ?_
  refine ab_getf (v := .ref 78) hκ (sy_o7 rfl) kf_RX7_58 rfl dX7_blows_57 rfl ?_
  refine ab_iload_n hκ dX7_blows_60 rfl ?_
  refine ab_iald hκ rfl dX7_blows_61 ?_
  refine ab_aload_n hκ dX7_blows_62 rfl ?_
  refine ab_getf (v := .int (σ 61 16)) hκ (sy_o7 rfl) kf_RX7_167 rfl dX7_blows_63 rfl ?_
  refine ab_icmp_eq (tgt := 91) hκ dX7_blows_66 rfl ?_ ?_
  · refine ab_iconst (v := 1) hκ dX7_blows_91 rfl ?_
    refine ab_goto (tgt := 96) hκ dX7_blows_92 rfl ?_
    refine ab_fg (lv' := [sy_vr 61, sy_vi x6, sy_vi x7, none, sy_vi x9, none, none]) [3] rfl ?_
    exact m7_blows_J96_ok hκ x6 x7 x9 1 σ
  · refine ab_iload_n hκ dX7_blows_69 rfl ?_
    refine ab_iconst (v := 2) hκ dX7_blows_70 rfl ?_
    refine ab_icmp_ne (tgt := 95) hκ dX7_blows_71 rfl ?_ ?_
    · refine ab_iconst (v := 0) hκ dX7_blows_95 rfl ?_
      refine ab_fg (lv' := [sy_vr 61, sy_vi x6, sy_vi x7, none, sy_vi x9, none, none]) [3] rfl ?_
      exact m7_blows_J96_ok hκ x6 x7 x9 0 σ
    · refine ab_aload_n hκ dX7_blows_74 rfl ?_
      refine ab_getf (v := .ref 78) hκ (sy_o7 rfl) kf_RX7_58 rfl dX7_blows_75 rfl ?_
      refine ab_iload_n hκ dX7_blows_78 rfl ?_
      refine ab_iald hκ rfl dX7_blows_79 ?_
      refine ab_aload_n hκ dX7_blows_80 rfl ?_
      refine ab_getf (v := .int (σ 61 16)) hκ (sy_o7 rfl) kf_RX7_167 rfl dX7_blows_81 rfl ?_
      refine ab_cSi (vs := [.int (σ 78 (sy_ix x7)), .int (σ 61 16)]) (st := []) hκ dX7_blows_84 kl_RX7_170 ki_X7_apart kv_X7_apart (m7_apart_ok (σ 78 (sy_ix x7)) (σ 61 16) σ) rfl (by decide) (Nat.le_of_ble_eq_true rfl) rfl (fun r21 σ20 => ?_)
      refine ab_iconst (v := 1) hκ dX7_blows_87 rfl ?_
      refine ab_icmp_ne (tgt := 95) hκ dX7_blows_88 rfl ?_ ?_
      · refine ab_iconst (v := 0) hκ dX7_blows_95 rfl ?_
        refine ab_fg (lv' := [sy_vr 61, sy_vi x6, sy_vi x7, none, sy_vi x9, none, none]) [3] rfl ?_
        exact m7_blows_J96_ok hκ x6 x7 x9 0 σ20
      · refine ab_iconst (v := 1) hκ dX7_blows_91 rfl ?_
        refine ab_goto (tgt := 96) hκ dX7_blows_92 rfl ?_
        refine ab_fg (lv' := [sy_vr 61, sy_vi x6, sy_vi x7, none, sy_vi x9, none, none]) [3] rfl ?_
        exact m7_blows_J96_ok hκ x6 x7 x9 1 σ20
def m7_blows (a1 : Int32) (σ : St) : Option (Unit × St) := sy_gd ((2 * a1) + 1) 32 (sy_lt (σ 69 (sy_ix ((2 * a1) + 1))) (fun v1 => sy_gd a1 16 (sy_lt (sy_sf σ 74 (sy_ix a1) 0) (fun σ2 => sy_bd (m7_isPlayer v1 σ2) (fun r4 σ3 => if r4 = 0 then (some ((), σ3)) else (sy_gd (2 * v1) 22 (sy_lt (σ3 68 (sy_ix (2 * v1))) (fun v5 => if v5 = 0 then (m7_blows_J54 a1 v1 v5 4 σ3) else (if v5 = 1 then (m7_blows_J54 a1 v1 v5 2 σ3) else (m7_blows_J54 a1 v1 v5 1 σ3))))))))))
set_option maxRecDepth 100000 in
set_option maxHeartbeats 4000000 in
theorem m7_blows_ok (a1 : Int32) (σ : St) : Cok sy_cu yX7_blows cX7_blows 7 none 2 [.ref 61, .int a1] σ (m7_blows a1 σ) := by
  refine cok_of (own := RX7) (by decide) rfl (fun ad => Nat.le_of_ble_eq_true rfl) (fun κ hκ => ?_)
  show Ab sy_cu κ 0 [sy_vr 61, sy_vi a1, none, none, none, none, none] [] σ (m7_blows a1 σ)
  unfold m7_blows
  refine ab_aload_n hκ dX7_blows_0 rfl ?_
  refine ab_getf (v := .ref 69) hκ (sy_o7 rfl) kf_RX7_31 rfl dX7_blows_1 rfl ?_
  refine ab_iconst (v := 2) hκ dX7_blows_4 rfl ?_
  refine ab_iload_n hκ dX7_blows_5 rfl ?_
  refine ab_imul hκ dX7_blows_6 ?_
  refine ab_iconst (v := 1) hκ dX7_blows_7 rfl ?_
  refine ab_iadd hκ dX7_blows_8 ?_
  refine ab_iald hκ rfl dX7_blows_9 ?_
  refine ab_lti (fun v1 => ?_)
  refine ab_istore_n (lv' := [sy_vr 61, sy_vi a1, sy_vi v1, none, none, none, none]) hκ dX7_blows_10 rfl (by decide) rfl ?_
  refine ab_aload_n hκ dX7_blows_11 rfl ?_
  refine ab_getf (v := .ref 74) hκ (sy_o7 rfl) kf_RX7_46 rfl dX7_blows_12 rfl ?_
  refine ab_iload_n hκ dX7_blows_15 rfl ?_
  refine ab_iconst (v := 0) hκ dX7_blows_16 rfl ?_
  refine ab_iast hκ rfl dX7_blows_17 ?_
  refine ab_lts (fun σ2 => ?_)
  refine ab_aload_n hκ dX7_blows_18 rfl ?_
  refine ab_iload_n hκ dX7_blows_19 rfl ?_
  refine ab_cVi (vs := [.int v1]) (st := []) hκ dX7_blows_20 kl_RX7_142 ki_X7_isPlayer kv_X7_isPlayer (sy_o7 rfl) rfl rfl (m7_isPlayer_ok v1 σ2) rfl (by decide) (Nat.le_of_ble_eq_true rfl) rfl (fun r4 σ3 => ?_)
  refine ab_if_ne (tgt := 27) hκ dX7_blows_23 rfl ?_ ?_
  · refine ab_aload_n hκ dX7_blows_27 rfl ?_
    refine ab_getf (v := .ref 68) hκ (sy_o7 rfl) kf_RX7_28 rfl dX7_blows_28 rfl ?_
    refine ab_iconst (v := 2) hκ dX7_blows_31 rfl ?_
    refine ab_iload_n hκ dX7_blows_32 rfl ?_
    refine ab_imul hκ dX7_blows_33 ?_
    refine ab_iald hκ rfl dX7_blows_34 ?_
    refine ab_lti (fun v5 => ?_)
    refine ab_istore_n (lv' := [sy_vr 61, sy_vi a1, sy_vi v1, sy_vi v5, none, none, none]) hκ dX7_blows_35 rfl (by decide) rfl ?_
    refine ab_iload_n hκ dX7_blows_36 rfl ?_
    refine ab_if_ne (tgt := 44) hκ dX7_blows_37 rfl ?_ ?_
    · refine ab_iload_n hκ dX7_blows_44 rfl ?_
      refine ab_iconst (v := 1) hκ dX7_blows_45 rfl ?_
      refine ab_icmp_ne (tgt := 53) hκ dX7_blows_46 rfl ?_ ?_
      · refine ab_iconst (v := 1) hκ dX7_blows_53 rfl ?_
        exact m7_blows_J54_ok hκ a1 v1 v5 1 σ3
      · refine ab_iconst (v := 2) hκ dX7_blows_49 rfl ?_
        refine ab_goto (tgt := 54) hκ dX7_blows_50 rfl ?_
        exact m7_blows_J54_ok hκ a1 v1 v5 2 σ3
    · refine ab_iconst (v := 4) hκ dX7_blows_40 rfl ?_
      refine ab_goto (tgt := 54) hκ dX7_blows_41 rfl ?_
      exact m7_blows_J54_ok hκ a1 v1 v5 4 σ3
  · exact ab_vret hκ dX7_blows_26
-- BreathBandModel.whoIn(I)I, depth 0
def m7_whoIn_L4b (K4 : Int32 → Int32 → Int32 → St → Option (Int32 × St)) (E4_34 : Int32 → St → Option (Int32 × St)) (x1 : Int32) (x2 : Int32) (x3 : Int32) (σ : St) : Option (Int32 × St) := if (σ 61 7) ≤ x3 then (E4_34 x2 σ) else (sy_gd x3 11 (if (σ 78 (sy_ix x3)) = x1 then (K4 x1 x3 (x3 + 1) σ) else (K4 x1 x2 (x3 + 1) σ)))
def m7_whoIn_L4 (E4_34 : Int32 → St → Option (Int32 × St)) : Nat → Int32 → Int32 → Int32 → St → Option (Int32 × St)
  | 0 => fun _ _ _ _ => none
  | n + 1 => m7_whoIn_L4b  (m7_whoIn_L4  E4_34 n) E4_34
set_option maxRecDepth 100000 in
set_option maxHeartbeats 4000000 in
theorem m7_whoIn_L4b_ok {κ : Kx} (hκ : Gd κ cX7_whoIn 4 RX7 (some .int) 0) {K4 : Int32 → Int32 → Int32 → St → Option (Int32 × St)} (hK4 : ∀ (x1 : Int32) (x2 : Int32) (x3 : Int32) (σ : St), Ab sy_vi κ 4 [sy_vr 61, sy_vi x1, sy_vi x2, sy_vi x3] [] σ (K4 x1 x2 x3 σ)) {E4_34 : Int32 → St → Option (Int32 × St)} (hE4_34 : ∀ (y2 : Int32) (σ : St), Ab sy_vi κ 34 [none, none, sy_vi y2, none] [] σ (E4_34 y2 σ)) (x1 : Int32) (x2 : Int32) (x3 : Int32) (σ : St) : Ab sy_vi κ 4 [sy_vr 61, sy_vi x1, sy_vi x2, sy_vi x3] [] σ (m7_whoIn_L4b  K4 E4_34 x1 x2 x3 σ) := by
  unfold m7_whoIn_L4b
  refine ab_iload_n hκ dX7_whoIn_4 rfl ?_
  refine ab_aload_n hκ dX7_whoIn_5 rfl ?_
  refine ab_getf (v := .int (σ 61 7)) hκ (sy_o7 rfl) kf_RX7_113 rfl dX7_whoIn_6 rfl ?_
  refine ab_icmp_ge (tgt := 34) hκ dX7_whoIn_9 rfl ?_ ?_
  · refine ab_fg (lv' := [none, none, sy_vi x2, none]) [0, 1, 3] rfl ?_
    exact hE4_34 x2 σ
  · refine ab_aload_n hκ dX7_whoIn_12 rfl ?_
    refine ab_getf (v := .ref 78) hκ (sy_o7 rfl) kf_RX7_58 rfl dX7_whoIn_13 rfl ?_
    refine ab_iload_n hκ dX7_whoIn_16 rfl ?_
    refine ab_iald hκ rfl dX7_whoIn_17 ?_
    refine ab_iload_n hκ dX7_whoIn_18 rfl ?_
    refine ab_icmp_ne (tgt := 26) hκ dX7_whoIn_19 rfl ?_ ?_
    · refine ab_iload_n hκ dX7_whoIn_26 rfl ?_
      refine ab_istore_n (lv' := [sy_vr 61, sy_vi x1, sy_vi x2, sy_vi x3]) hκ dX7_whoIn_27 rfl (by decide) rfl ?_
      refine ab_iinc (v := (x3 + 1)) (lv' := [sy_vr 61, sy_vi x1, sy_vi x2, sy_vi (x3 + 1)]) hκ dX7_whoIn_28 rfl rfl (by decide) rfl ?_
      refine ab_goto (tgt := 4) hκ dX7_whoIn_31 rfl ?_
      exact hK4 x1 x2 (x3 + 1) σ
    · refine ab_iload_n hκ dX7_whoIn_22 rfl ?_
      refine ab_goto (tgt := 27) hκ dX7_whoIn_23 rfl ?_
      refine ab_istore_n (lv' := [sy_vr 61, sy_vi x1, sy_vi x3, sy_vi x3]) hκ dX7_whoIn_27 rfl (by decide) rfl ?_
      refine ab_iinc (v := (x3 + 1)) (lv' := [sy_vr 61, sy_vi x1, sy_vi x3, sy_vi (x3 + 1)]) hκ dX7_whoIn_28 rfl rfl (by decide) rfl ?_
      refine ab_goto (tgt := 4) hκ dX7_whoIn_31 rfl ?_
      exact hK4 x1 x3 (x3 + 1) σ
theorem m7_whoIn_L4_ok {κ : Kx} (hκ : Gd κ cX7_whoIn 4 RX7 (some .int) 0) {E4_34 : Int32 → St → Option (Int32 × St)} (hE4_34 : ∀ (y2 : Int32) (σ : St), Ab sy_vi κ 34 [none, none, sy_vi y2, none] [] σ (E4_34 y2 σ)) : ∀ (n : Nat) (x1 : Int32) (x2 : Int32) (x3 : Int32) (σ : St), Ab sy_vi κ 4 [sy_vr 61, sy_vi x1, sy_vi x2, sy_vi x3] [] σ (m7_whoIn_L4  E4_34 n x1 x2 x3 σ) := by
  intro n
  induction n with
  | zero => intros; exact ab_none
  | succ n ih => exact fun x1 x2 x3 σ => m7_whoIn_L4b_ok hκ   ih hE4_34 x1 x2 x3 σ
def m7_whoIn (a1 : Int32) (σ : St) : Option (Int32 × St) := m7_whoIn_L4 (fun y4 σ5 => some (y4, σ5)) sy_FU a1 (-1) 0 σ
set_option maxRecDepth 100000 in
set_option maxHeartbeats 4000000 in
theorem m7_whoIn_ok (a1 : Int32) (σ : St) : Cok sy_vi yX7_whoIn cX7_whoIn 4 (some .int) 0 [.ref 61, .int a1] σ (m7_whoIn a1 σ) := by
  refine cok_of (own := RX7) (by decide) rfl (fun ad => Nat.le_of_ble_eq_true rfl) (fun κ hκ => ?_)
  show Ab sy_vi κ 0 [sy_vr 61, sy_vi a1, none, none] [] σ (m7_whoIn a1 σ)
  unfold m7_whoIn
  refine ab_iconst (v := (-1)) hκ dX7_whoIn_0 rfl ?_
  refine ab_istore_n (lv' := [sy_vr 61, sy_vi a1, sy_vi (-1), none]) hκ dX7_whoIn_1 rfl (by decide) rfl ?_
  refine ab_iconst (v := 0) hκ dX7_whoIn_2 rfl ?_
  refine ab_istore_n (lv' := [sy_vr 61, sy_vi a1, sy_vi (-1), sy_vi 0]) hκ dX7_whoIn_3 rfl (by decide) rfl ?_
  refine m7_whoIn_L4_ok hκ ?_ _ _ _ _ _
  · intro y4 σ5
    refine ab_iload_n hκ dX7_whoIn_34 rfl ?_
    exact ab_iret hκ dX7_whoIn_35
-- BreathBandModel.passes(I)V, depth 3
def m7_passes_L38b (K38 : Int32 → Int32 → St → Option (Unit × St)) (E38_69 : Int32 → St → Option (Unit × St)) (x7 : Int32) (x8 : Int32) (σ : St) : Option (Unit × St) := if (σ 61 9) ≤ x8 then (E38_69 x7 σ) else (sy_gd (2 * x8) 32 (if (σ 69 (sy_ix (2 * x8))) = x7 then (sy_bd (m7_blows x8 σ) (fun _ σ9 => K38 x7 (x8 + 1) σ9)) else (K38 x7 (x8 + 1) σ)))
def m7_passes_L38 (E38_69 : Int32 → St → Option (Unit × St)) : Nat → Int32 → Int32 → St → Option (Unit × St)
  | 0 => fun _ _ _ => none
  | n + 1 => m7_passes_L38b  (m7_passes_L38  E38_69 n) E38_69
set_option maxRecDepth 100000 in
set_option maxHeartbeats 4000000 in
theorem m7_passes_L38b_ok {κ : Kx} (hκ : Gd κ cX7_passes 6 RX7 none 3) {K38 : Int32 → Int32 → St → Option (Unit × St)} (hK38 : ∀ (x7 : Int32) (x8 : Int32) (σ : St), Ab sy_cu κ 38 [sy_vr 61, sy_vi x7, none, sy_vi x8, none, none] [] σ (K38 x7 x8 σ)) {E38_69 : Int32 → St → Option (Unit × St)} (hE38_69 : ∀ (y1 : Int32) (σ : St), Ab sy_cu κ 69 [sy_vr 61, sy_vi y1, none, none, none, none] [] σ (E38_69 y1 σ)) (x7 : Int32) (x8 : Int32) (σ : St) : Ab sy_cu κ 38 [sy_vr 61, sy_vi x7, none, sy_vi x8, none, none] [] σ (m7_passes_L38b  K38 E38_69 x7 x8 σ) := by
  unfold m7_passes_L38b
  refine ab_iload_n hκ dX7_passes_38 rfl ?_
  refine ab_aload_n hκ dX7_passes_39 rfl ?_
  refine ab_getf (v := .int (σ 61 9)) hκ (sy_o7 rfl) kf_RX7_124 rfl dX7_passes_40 rfl ?_
  refine ab_icmp_ge (tgt := 69) hκ dX7_passes_43 rfl ?_ ?_
  · refine ab_fg (lv' := [sy_vr 61, sy_vi x7, none, none, none, none]) [3] rfl ?_
    exact hE38_69 x7 σ
  · refine ab_aload_n hκ dX7_passes_46 rfl ?_
    refine ab_getf (v := .ref 69) hκ (sy_o7 rfl) kf_RX7_31 rfl dX7_passes_47 rfl ?_
    refine ab_iconst (v := 2) hκ dX7_passes_50 rfl ?_
    refine ab_iload_n hκ dX7_passes_51 rfl ?_
    refine ab_imul hκ dX7_passes_52 ?_
    refine ab_iald hκ rfl dX7_passes_53 ?_
    refine ab_iload_n hκ dX7_passes_54 rfl ?_
    refine ab_icmp_ne (tgt := 63) hκ dX7_passes_55 rfl ?_ ?_
    · refine ab_iinc (v := (x8 + 1)) (lv' := [sy_vr 61, sy_vi x7, none, sy_vi (x8 + 1), none, none]) hκ dX7_passes_63 rfl rfl (by decide) rfl ?_
      refine ab_goto (tgt := 38) hκ dX7_passes_66 rfl ?_
      exact hK38 x7 (x8 + 1) σ
    · refine ab_aload_n hκ dX7_passes_58 rfl ?_
      refine ab_iload_n hκ dX7_passes_59 rfl ?_
      refine ab_cVv (vs := [.int x8]) (st := []) hκ dX7_passes_60 kl_RX7_185 ki_X7_blows kv_X7_blows (sy_o7 rfl) rfl rfl (m7_blows_ok x8 σ) rfl (by decide) (Nat.le_of_ble_eq_true rfl) rfl (fun _ σ9 => ?_)
      refine ab_iinc (v := (x8 + 1)) (lv' := [sy_vr 61, sy_vi x7, none, sy_vi (x8 + 1), none, none]) hκ dX7_passes_63 rfl rfl (by decide) rfl ?_
      refine ab_goto (tgt := 38) hκ dX7_passes_66 rfl ?_
      exact hK38 x7 (x8 + 1) σ9
theorem m7_passes_L38_ok {κ : Kx} (hκ : Gd κ cX7_passes 6 RX7 none 3) {E38_69 : Int32 → St → Option (Unit × St)} (hE38_69 : ∀ (y1 : Int32) (σ : St), Ab sy_cu κ 69 [sy_vr 61, sy_vi y1, none, none, none, none] [] σ (E38_69 y1 σ)) : ∀ (n : Nat) (x7 : Int32) (x8 : Int32) (σ : St), Ab sy_cu κ 38 [sy_vr 61, sy_vi x7, none, sy_vi x8, none, none] [] σ (m7_passes_L38  E38_69 n x7 x8 σ) := by
  intro n
  induction n with
  | zero => intros; exact ab_none
  | succ n ih => exact fun x7 x8 σ => m7_passes_L38b_ok hκ   ih hE38_69 x7 x8 σ
def m7_passes_J202 (x12 : Int32) (x13 : Int32)  (σ : St) : Option (Unit × St) := sy_lt (sy_sf σ 61 17 ((σ 61 17) - x13)) (fun σ14 => sy_lt (sy_sf σ14 61 19 ((σ14 61 19) + x13)) (fun σ15 => sy_gd x12 24 (sy_lt (sy_sf σ15 71 (sy_ix x12) (σ15 61 16)) (fun σ16 => sy_gd x12 24 (sy_lt (sy_sf σ16 72 (sy_ix x12) (σ16 61 17)) (fun σ17 => sy_gd x12 24 (sy_lt (sy_sf σ17 73 (sy_ix x12) x13) (fun σ18 => some ((), σ18)))))))))
set_option maxRecDepth 100000 in
set_option maxHeartbeats 4000000 in
theorem m7_passes_J202_ok {κ : Kx} (hκ : Gd κ cX7_passes 6 RX7 none 3) (x12 : Int32) (x13 : Int32) (σ : St) : Ab sy_cu κ 202 [sy_vr 61, sy_vi x12, none, sy_vi x13, none, none] [] σ (m7_passes_J202 x12 x13 σ) := by
  unfold m7_passes_J202
  refine ab_aload_n hκ dX7_passes_202 rfl ?_
  refine ab_dupa hκ dX7_passes_203 ?_
  refine ab_getf (v := .int (σ 61 17)) hκ (sy_o7 rfl) kf_RX7_173 rfl dX7_passes_204 rfl ?_
  refine ab_iload_n hκ dX7_passes_207 rfl ?_
  refine ab_isub hκ dX7_passes_208 ?_
  refine ab_putf hκ (sy_o7 rfl) kp_RX7_173 rfl dX7_passes_209 ?_
  refine ab_lts (fun σ14 => ?_)
  refine ab_aload_n hκ dX7_passes_212 rfl ?_
  refine ab_dupa hκ dX7_passes_213 ?_
  refine ab_getf (v := .int (σ14 61 19)) hκ (sy_o7 rfl) kf_RX7_192 rfl dX7_passes_214 rfl ?_
  refine ab_iload_n hκ dX7_passes_217 rfl ?_
  refine ab_iadd hκ dX7_passes_218 ?_
  refine ab_putf hκ (sy_o7 rfl) kp_RX7_192 rfl dX7_passes_219 ?_
  refine ab_lts (fun σ15 => ?_)
  refine ab_aload_n hκ dX7_passes_222 rfl ?_
  refine ab_getf (v := .ref 71) hκ (sy_o7 rfl) kf_RX7_37 rfl dX7_passes_223 rfl ?_
  refine ab_iload_n hκ dX7_passes_226 rfl ?_
  refine ab_aload_n hκ dX7_passes_227 rfl ?_
  refine ab_getf (v := .int (σ15 61 16)) hκ (sy_o7 rfl) kf_RX7_167 rfl dX7_passes_228 rfl ?_
  refine ab_iast hκ rfl dX7_passes_231 ?_
  refine ab_lts (fun σ16 => ?_)
  refine ab_aload_n hκ dX7_passes_232 rfl ?_
  refine ab_getf (v := .ref 72) hκ (sy_o7 rfl) kf_RX7_40 rfl dX7_passes_233 rfl ?_
  refine ab_iload_n hκ dX7_passes_236 rfl ?_
  refine ab_aload_n hκ dX7_passes_237 rfl ?_
  refine ab_getf (v := .int (σ16 61 17)) hκ (sy_o7 rfl) kf_RX7_173 rfl dX7_passes_238 rfl ?_
  refine ab_iast hκ rfl dX7_passes_241 ?_
  refine ab_lts (fun σ17 => ?_)
  refine ab_aload_n hκ dX7_passes_242 rfl ?_
  refine ab_getf (v := .ref 73) hκ (sy_o7 rfl) kf_RX7_43 rfl dX7_passes_243 rfl ?_
  refine ab_iload_n hκ dX7_passes_246 rfl ?_
  refine ab_iload_n hκ dX7_passes_247 rfl ?_
  refine ab_iast hκ rfl dX7_passes_248 ?_
  refine ab_lts (fun σ18 => ?_)
  exact ab_vret hκ dX7_passes_249
def m7_passes_J164 (x34 : Int32) (x35 : Int32) (x36 : Int32) (x37 : Int32)  (σ : St) : Option (Unit × St) := sy_bd (m7_lesser x37 (σ 61 17) σ) (fun r39 σ38 => if x36 = 0 then (sy_lt (sy_sf σ38 61 16 ((σ38 61 16) + 1)) (fun σ40 => sy_gd x35 11 (sy_gd x35 11 (sy_lt (sy_sf σ40 77 (sy_ix x35) ((σ40 77 (sy_ix x35)) + r39)) (fun σ41 => m7_passes_J202 x34 r39 σ41))))) else (sy_lt (sy_sf σ38 61 16 0) (fun σ42 => sy_gd x35 11 (sy_gd x35 11 (sy_lt (sy_sf σ42 77 (sy_ix x35) ((σ42 77 (sy_ix x35)) + r39)) (fun σ43 => m7_passes_J202 x34 r39 σ43))))))
set_option maxRecDepth 100000 in
set_option maxHeartbeats 4000000 in
theorem m7_passes_J164_ok {κ : Kx} (hκ : Gd κ cX7_passes 6 RX7 none 3) (x34 : Int32) (x35 : Int32) (x36 : Int32) (x37 : Int32) (σ : St) : Ab sy_cu κ 164 [sy_vr 61, sy_vi x34, none, none, sy_vi x35, sy_vi x36] [.int x37] σ (m7_passes_J164 x34 x35 x36 x37 σ) := by
  unfold m7_passes_J164
  refine ab_aload_n hκ dX7_passes_164 rfl ?_
  refine ab_getf (v := .int (σ 61 17)) hκ (sy_o7 rfl) kf_RX7_173 rfl dX7_passes_165 rfl ?_
  refine ab_cSi (vs := [.int x37, .int (σ 61 17)]) (st := []) hκ dX7_passes_168 kl_RX7_179 ki_X7_lesser kv_X7_lesser (m7_lesser_ok x37 (σ 61 17) σ) rfl (by decide) (Nat.le_of_ble_eq_true rfl) rfl (fun r39 σ38 => ?_)
  refine ab_istore_n (lv' := [sy_vr 61, sy_vi x34, none, sy_vi r39, sy_vi x35, sy_vi x36]) hκ dX7_passes_171 rfl (by decide) rfl ?_
  refine ab_aload_n hκ dX7_passes_172 rfl ?_
  refine ab_iload hκ dX7_passes_173 rfl ?_
  refine ab_if_eq (tgt := 182) hκ dX7_passes_175 rfl ?_ ?_
  · refine ab_aload_n hκ dX7_passes_182 rfl ?_
    refine ab_getf (v := .int (σ38 61 16)) hκ (sy_o7 rfl) kf_RX7_167 rfl dX7_passes_183 rfl ?_
    refine ab_iconst (v := 1) hκ dX7_passes_186 rfl ?_
    refine ab_iadd hκ dX7_passes_187 ?_
    refine ab_putf hκ (sy_o7 rfl) kp_RX7_167 rfl dX7_passes_188 ?_
    refine ab_lts (fun σ40 => ?_)
    refine ab_aload_n hκ dX7_passes_191 rfl ?_
    refine ab_getf (v := .ref 77) hκ (sy_o7 rfl) kf_RX7_55 rfl dX7_passes_192 rfl ?_
    refine ab_iload hκ dX7_passes_195 rfl ?_
    refine ab_dup2 hκ dX7_passes_197 ?_
    refine ab_iald hκ rfl dX7_passes_198 ?_
    refine ab_iload_n hκ dX7_passes_199 rfl ?_
    refine ab_iadd hκ dX7_passes_200 ?_
    refine ab_iast hκ rfl dX7_passes_201 ?_
    refine ab_lts (fun σ41 => ?_)
    refine ab_fg (lv' := [sy_vr 61, sy_vi x34, none, sy_vi r39, none, none]) [4, 5] rfl ?_
    exact m7_passes_J202_ok hκ x34 r39 σ41
  · refine ab_iconst (v := 0) hκ dX7_passes_178 rfl ?_
    refine ab_goto (tgt := 188) hκ dX7_passes_179 rfl ?_
    refine ab_putf hκ (sy_o7 rfl) kp_RX7_167 rfl dX7_passes_188 ?_
    refine ab_lts (fun σ42 => ?_)
    refine ab_aload_n hκ dX7_passes_191 rfl ?_
    refine ab_getf (v := .ref 77) hκ (sy_o7 rfl) kf_RX7_55 rfl dX7_passes_192 rfl ?_
    refine ab_iload hκ dX7_passes_195 rfl ?_
    refine ab_dup2 hκ dX7_passes_197 ?_
    refine ab_iald hκ rfl dX7_passes_198 ?_
    refine ab_iload_n hκ dX7_passes_199 rfl ?_
    refine ab_iadd hκ dX7_passes_200 ?_
    refine ab_iast hκ rfl dX7_passes_201 ?_
    refine ab_lts (fun σ43 => ?_)
    refine ab_fg (lv' := [sy_vr 61, sy_vi x34, none, sy_vi r39, none, none]) [4, 5] rfl ?_
    exact m7_passes_J202_ok hκ x34 r39 σ43
def m7_passes_J146 (x26 : Int32) (x27 : Int32) (x28 : Int32) (x29 : Int32) (x30 : Int32)  (σ : St) : Option (Unit × St) := sy_lt (x30 + x29) (fun v31 => sy_bd (m7_many 1 x26 σ) (fun r33 σ32 => if r33 ≤ 0 then (m7_passes_J164 x26 x27 x28 v31 σ32) else (m7_passes_J164 x26 x27 x28 (2 * v31) σ32)))
set_option maxRecDepth 100000 in
set_option maxHeartbeats 4000000 in
theorem m7_passes_J146_ok {κ : Kx} (hκ : Gd κ cX7_passes 6 RX7 none 3) (x26 : Int32) (x27 : Int32) (x28 : Int32) (x29 : Int32) (x30 : Int32) (σ : St) : Ab sy_cu κ 146 [sy_vr 61, sy_vi x26, none, none, sy_vi x27, sy_vi x28] [.int x29, .int x30] σ (m7_passes_J146 x26 x27 x28 x29 x30 σ) := by
  unfold m7_passes_J146
  refine ab_iadd hκ dX7_passes_146 ?_
  refine ab_lti (fun v31 => ?_)
  refine ab_istore_n (lv' := [sy_vr 61, sy_vi x26, none, sy_vi v31, sy_vi x27, sy_vi x28]) hκ dX7_passes_147 rfl (by decide) rfl ?_
  refine ab_aload_n hκ dX7_passes_148 rfl ?_
  refine ab_iconst (v := 1) hκ dX7_passes_149 rfl ?_
  refine ab_iload_n hκ dX7_passes_150 rfl ?_
  refine ab_cVi (vs := [.int 1, .int x26]) (st := []) hκ dX7_passes_151 kl_RX7_176 ki_X7_many kv_X7_many (sy_o7 rfl) rfl rfl (m7_many_ok 1 x26 σ) rfl (by decide) (Nat.le_of_ble_eq_true rfl) rfl (fun r33 σ32 => ?_)
  refine ab_if_le (tgt := 163) hκ dX7_passes_154 rfl ?_ ?_
  · refine ab_iload_n hκ dX7_passes_163 rfl ?_
    refine ab_fg (lv' := [sy_vr 61, sy_vi x26, none, none, sy_vi x27, sy_vi x28]) [3] rfl ?_
    exact m7_passes_J164_ok hκ x26 x27 x28 v31 σ32
  · refine ab_iconst (v := 2) hκ dX7_passes_157 rfl ?_
    refine ab_iload_n hκ dX7_passes_158 rfl ?_
    refine ab_imul hκ dX7_passes_159 ?_
    refine ab_goto (tgt := 164) hκ dX7_passes_160 rfl ?_
    refine ab_fg (lv' := [sy_vr 61, sy_vi x26, none, none, sy_vi x27, sy_vi x28]) [3] rfl ?_
    exact m7_passes_J164_ok hκ x26 x27 x28 (2 * v31) σ32
def m7_passes_J123 (x23 : Int32) (x24 : Int32) (x25 : Int32)  (σ : St) : Option (Unit × St) := sy_gd ((2 * x24) + 1) 22 (if x25 = 0 then (m7_passes_J146 x23 x24 x25 0 (σ 68 (sy_ix ((2 * x24) + 1))) σ) else (m7_passes_J146 x23 x24 x25 2 (σ 68 (sy_ix ((2 * x24) + 1))) σ))
set_option maxRecDepth 100000 in
set_option maxHeartbeats 4000000 in
theorem m7_passes_J123_ok {κ : Kx} (hκ : Gd κ cX7_passes 6 RX7 none 3) (x23 : Int32) (x24 : Int32) (x25 : Int32) (σ : St) : Ab sy_cu κ 123 [sy_vr 61, sy_vi x23, none, none, sy_vi x24, none] [.int x25] σ (m7_passes_J123 x23 x24 x25 σ) := by
  unfold m7_passes_J123
  refine ab_istore (lv' := [sy_vr 61, sy_vi x23, none, none, sy_vi x24, sy_vi x25]) hκ dX7_passes_123 (by decide) rfl ?_
  refine ab_aload_n hκ dX7_passes_125 rfl ?_
  refine ab_getf (v := .ref 68) hκ (sy_o7 rfl) kf_RX7_28 rfl dX7_passes_126 rfl ?_
  refine ab_iconst (v := 2) hκ dX7_passes_129 rfl ?_
  refine ab_iload hκ dX7_passes_130 rfl ?_
  refine ab_imul hκ dX7_passes_132 ?_
  refine ab_iconst (v := 1) hκ dX7_passes_133 rfl ?_
  refine ab_iadd hκ dX7_passes_134 ?_
  refine ab_iald hκ rfl dX7_passes_135 ?_
  refine ab_iload hκ dX7_passes_136 rfl ?_
  refine ab_if_eq (tgt := 145) hκ dX7_passes_138 rfl ?_ ?_
  · refine ab_iconst (v := 0) hκ dX7_passes_145 rfl ?_
    exact m7_passes_J146_ok hκ x23 x24 x25 0 (σ 68 (sy_ix ((2 * x24) + 1))) σ
  · refine ab_iconst (v := 2) hκ dX7_passes_141 rfl ?_
    refine ab_goto (tgt := 146) hκ dX7_passes_142 rfl ?_
    exact m7_passes_J146_ok hκ x23 x24 x25 2 (σ 68 (sy_ix ((2 * x24) + 1))) σ
def m7_passes (a1 : Int32) (σ : St) : Option (Unit × St) := sy_bd (m7_many 0 a1 σ) (fun r2 σ1 => sy_bd (m7_lesser (3 * r2) (σ1 61 17) σ1) (fun r4 σ3 => sy_lt (sy_sf σ3 61 17 ((σ3 61 17) - r4)) (fun σ5 => sy_lt (sy_sf σ5 61 18 ((σ5 61 18) + r4)) (fun σ6 => m7_passes_L38 (fun y10 σ11 => if (σ11 61 7) ≤ 0 then (m7_passes_J202 y10 0 σ11) else (sy_bd (m7_many 2 y10 σ11) (fun r20 σ19 => if r20 = 0 then (if (σ19 61 15) = y10 then (m7_passes_J202 y10 0 σ19) else (sy_bd (m7_whoIn (σ19 61 16) σ19) (fun r22 σ21 => if (σ21 61 16) = ((σ21 61 7) - 1) then (m7_passes_J123 y10 r22 1 σ21) else (m7_passes_J123 y10 r22 0 σ21)))) else (m7_passes_J202 y10 0 σ19)))) sy_FU a1 0 σ6))))
set_option maxRecDepth 100000 in
set_option maxHeartbeats 4000000 in
theorem m7_passes_ok (a1 : Int32) (σ : St) : Cok sy_cu yX7_passes cX7_passes 6 none 3 [.ref 61, .int a1] σ (m7_passes a1 σ) := by
  refine cok_of (own := RX7) (by decide) rfl (fun ad => Nat.le_of_ble_eq_true rfl) (fun κ hκ => ?_)
  show Ab sy_cu κ 0 [sy_vr 61, sy_vi a1, none, none, none, none] [] σ (m7_passes a1 σ)
  unfold m7_passes
  refine ab_iconst (v := 3) hκ dX7_passes_0 rfl ?_
  refine ab_aload_n hκ dX7_passes_1 rfl ?_
  refine ab_iconst (v := 0) hκ dX7_passes_2 rfl ?_
  refine ab_iload_n hκ dX7_passes_3 rfl ?_
  refine ab_cVi (vs := [.int 0, .int a1]) (st := [.int 3]) hκ dX7_passes_4 kl_RX7_176 ki_X7_many kv_X7_many (sy_o7 rfl) rfl rfl (m7_many_ok 0 a1 σ) rfl (by decide) (Nat.le_of_ble_eq_true rfl) rfl (fun r2 σ1 => ?_)
  refine ab_imul hκ dX7_passes_7 ?_
  refine ab_aload_n hκ dX7_passes_8 rfl ?_
  refine ab_getf (v := .int (σ1 61 17)) hκ (sy_o7 rfl) kf_RX7_173 rfl dX7_passes_9 rfl ?_
  refine ab_cSi (vs := [.int (3 * r2), .int (σ1 61 17)]) (st := []) hκ dX7_passes_12 kl_RX7_179 ki_X7_lesser kv_X7_lesser (m7_lesser_ok (3 * r2) (σ1 61 17) σ1) rfl (by decide) (Nat.le_of_ble_eq_true rfl) rfl (fun r4 σ3 => ?_)
  refine ab_istore_n (lv' := [sy_vr 61, sy_vi a1, sy_vi r4, none, none, none]) hκ dX7_passes_15 rfl (by decide) rfl ?_
  refine ab_aload_n hκ dX7_passes_16 rfl ?_
  refine ab_dupa hκ dX7_passes_17 ?_
  refine ab_getf (v := .int (σ3 61 17)) hκ (sy_o7 rfl) kf_RX7_173 rfl dX7_passes_18 rfl ?_
  refine ab_iload_n hκ dX7_passes_21 rfl ?_
  refine ab_isub hκ dX7_passes_22 ?_
  refine ab_putf hκ (sy_o7 rfl) kp_RX7_173 rfl dX7_passes_23 ?_
  refine ab_lts (fun σ5 => ?_)
  refine ab_aload_n hκ dX7_passes_26 rfl ?_
  refine ab_dupa hκ dX7_passes_27 ?_
  refine ab_getf (v := .int (σ5 61 18)) hκ (sy_o7 rfl) kf_RX7_182 rfl dX7_passes_28 rfl ?_
  refine ab_iload_n hκ dX7_passes_31 rfl ?_
  refine ab_iadd hκ dX7_passes_32 ?_
  refine ab_putf hκ (sy_o7 rfl) kp_RX7_182 rfl dX7_passes_33 ?_
  refine ab_lts (fun σ6 => ?_)
  refine ab_iconst (v := 0) hκ dX7_passes_36 rfl ?_
  refine ab_istore_n (lv' := [sy_vr 61, sy_vi a1, sy_vi r4, sy_vi 0, none, none]) hκ dX7_passes_37 rfl (by decide) rfl ?_
  refine ab_fg (lv' := [sy_vr 61, sy_vi a1, none, sy_vi 0, none, none]) [2] rfl ?_
  refine m7_passes_L38_ok hκ ?_ _ _ _ _
  · intro y10 σ11
    refine ab_iconst (v := 0) hκ dX7_passes_69 rfl ?_
    refine ab_istore_n (lv' := [sy_vr 61, sy_vi y10, none, sy_vi 0, none, none]) hκ dX7_passes_70 rfl (by decide) rfl ?_
    refine ab_aload_n hκ dX7_passes_71 rfl ?_
    refine ab_getf (v := .int (σ11 61 7)) hκ (sy_o7 rfl) kf_RX7_113 rfl dX7_passes_72 rfl ?_
    refine ab_if_le (tgt := 202) hκ dX7_passes_75 rfl ?_ ?_
    · exact m7_passes_J202_ok hκ y10 0 σ11
    · refine ab_aload_n hκ dX7_passes_78 rfl ?_
      refine ab_iconst (v := 2) hκ dX7_passes_79 rfl ?_
      refine ab_iload_n hκ dX7_passes_80 rfl ?_
      refine ab_cVi (vs := [.int 2, .int y10]) (st := []) hκ dX7_passes_81 kl_RX7_176 ki_X7_many kv_X7_many (sy_o7 rfl) rfl rfl (m7_many_ok 2 y10 σ11) rfl (by decide) (Nat.le_of_ble_eq_true rfl) rfl (fun r20 σ19 => ?_)
      refine ab_if_ne (tgt := 202) hκ dX7_passes_84 rfl ?_ ?_
      · exact m7_passes_J202_ok hκ y10 0 σ19
      · refine ab_aload_n hκ dX7_passes_87 rfl ?_
        refine ab_getf (v := .int (σ19 61 15)) hκ (sy_o7 rfl) kf_RX7_71 rfl dX7_passes_88 rfl ?_
        refine ab_iload_n hκ dX7_passes_91 rfl ?_
        refine ab_icmp_eq (tgt := 202) hκ dX7_passes_92 rfl ?_ ?_
        · exact m7_passes_J202_ok hκ y10 0 σ19
        · refine ab_aload_n hκ dX7_passes_95 rfl ?_
          refine ab_aload_n hκ dX7_passes_96 rfl ?_
          refine ab_getf (v := .int (σ19 61 16)) hκ (sy_o7 rfl) kf_RX7_167 rfl dX7_passes_97 rfl ?_
          refine ab_cVi (vs := [.int (σ19 61 16)]) (st := []) hκ dX7_passes_100 kl_RX7_189 ki_X7_whoIn kv_X7_whoIn (sy_o7 rfl) rfl rfl (m7_whoIn_ok (σ19 61 16) σ19) rfl (by decide) (Nat.le_of_ble_eq_true rfl) rfl (fun r22 σ21 => ?_)
          refine ab_istore (lv' := [sy_vr 61, sy_vi y10, none, sy_vi 0, sy_vi r22, none]) hκ dX7_passes_103 (by decide) rfl ?_
          refine ab_aload_n hκ dX7_passes_105 rfl ?_
          refine ab_getf (v := .int (σ21 61 16)) hκ (sy_o7 rfl) kf_RX7_167 rfl dX7_passes_106 rfl ?_
          refine ab_aload_n hκ dX7_passes_109 rfl ?_
          refine ab_getf (v := .int (σ21 61 7)) hκ (sy_o7 rfl) kf_RX7_113 rfl dX7_passes_110 rfl ?_
          refine ab_iconst (v := 1) hκ dX7_passes_113 rfl ?_
          refine ab_isub hκ dX7_passes_114 ?_
          refine ab_icmp_ne (tgt := 122) hκ dX7_passes_115 rfl ?_ ?_
          · refine ab_iconst (v := 0) hκ dX7_passes_122 rfl ?_
            refine ab_fg (lv' := [sy_vr 61, sy_vi y10, none, none, sy_vi r22, none]) [3] rfl ?_
            exact m7_passes_J123_ok hκ y10 r22 0 σ21
          · refine ab_iconst (v := 1) hκ dX7_passes_118 rfl ?_
            refine ab_goto (tgt := 123) hκ dX7_passes_119 rfl ?_
            refine ab_fg (lv' := [sy_vr 61, sy_vi y10, none, none, sy_vi r22, none]) [3] rfl ?_
            exact m7_passes_J123_ok hκ y10 r22 1 σ21
-- BreathBandModel.lives()V, depth 4
def m7_lives_L2b (K2 : Int32 → St → Option (Unit × St)) (E2_35 : St → Option (Unit × St)) (x1 : Int32) (σ : St) : Option (Unit × St) := if 11 ≤ x1 then (E2_35  σ) else (sy_gd x1 11 (sy_lt (sy_sf σ 75 (sy_ix x1) 0) (fun σ2 => sy_gd x1 11 (sy_lt (sy_sf σ2 76 (sy_ix x1) 0) (fun σ3 => sy_gd x1 11 (sy_lt (sy_sf σ3 77 (sy_ix x1) 0) (fun σ4 => K2 (x1 + 1) σ4)))))))
def m7_lives_L2 (E2_35 : St → Option (Unit × St)) : Nat → Int32 → St → Option (Unit × St)
  | 0 => fun _ _ => none
  | n + 1 => m7_lives_L2b  (m7_lives_L2  E2_35 n) E2_35
set_option maxRecDepth 100000 in
set_option maxHeartbeats 4000000 in
theorem m7_lives_L2b_ok {κ : Kx} (hκ : Gd κ cX7_lives 2 RX7 none 4) {K2 : Int32 → St → Option (Unit × St)} (hK2 : ∀ (x1 : Int32) (σ : St), Ab sy_cu κ 2 [sy_vr 61, sy_vi x1] [] σ (K2 x1 σ)) {E2_35 : St → Option (Unit × St)} (hE2_35 : ∀ (σ : St), Ab sy_cu κ 35 [sy_vr 61, none] [] σ (E2_35  σ)) (x1 : Int32) (σ : St) : Ab sy_cu κ 2 [sy_vr 61, sy_vi x1] [] σ (m7_lives_L2b  K2 E2_35 x1 σ) := by
  unfold m7_lives_L2b
  refine ab_iload_n hκ dX7_lives_2 rfl ?_
  refine ab_bipush (v := 11) hκ dX7_lives_3 rfl ?_
  refine ab_icmp_ge (tgt := 35) hκ dX7_lives_5 rfl ?_ ?_
  · refine ab_fg (lv' := [sy_vr 61, none]) [1] rfl ?_
    exact hE2_35  σ
  · refine ab_aload_n hκ dX7_lives_8 rfl ?_
    refine ab_getf (v := .ref 75) hκ (sy_o7 rfl) kf_RX7_49 rfl dX7_lives_9 rfl ?_
    refine ab_iload_n hκ dX7_lives_12 rfl ?_
    refine ab_iconst (v := 0) hκ dX7_lives_13 rfl ?_
    refine ab_iast hκ rfl dX7_lives_14 ?_
    refine ab_lts (fun σ2 => ?_)
    refine ab_aload_n hκ dX7_lives_15 rfl ?_
    refine ab_getf (v := .ref 76) hκ (sy_o7 rfl) kf_RX7_52 rfl dX7_lives_16 rfl ?_
    refine ab_iload_n hκ dX7_lives_19 rfl ?_
    refine ab_iconst (v := 0) hκ dX7_lives_20 rfl ?_
    refine ab_iast hκ rfl dX7_lives_21 ?_
    refine ab_lts (fun σ3 => ?_)
    refine ab_aload_n hκ dX7_lives_22 rfl ?_
    refine ab_getf (v := .ref 77) hκ (sy_o7 rfl) kf_RX7_55 rfl dX7_lives_23 rfl ?_
    refine ab_iload_n hκ dX7_lives_26 rfl ?_
    refine ab_iconst (v := 0) hκ dX7_lives_27 rfl ?_
    refine ab_iast hκ rfl dX7_lives_28 ?_
    refine ab_lts (fun σ4 => ?_)
    refine ab_iinc (v := (x1 + 1)) (lv' := [sy_vr 61, sy_vi (x1 + 1)]) hκ dX7_lives_29 rfl rfl (by decide) rfl ?_
    refine ab_goto (tgt := 2) hκ dX7_lives_32 rfl ?_
    exact hK2 (x1 + 1) σ4
theorem m7_lives_L2_ok {κ : Kx} (hκ : Gd κ cX7_lives 2 RX7 none 4) {E2_35 : St → Option (Unit × St)} (hE2_35 : ∀ (σ : St), Ab sy_cu κ 35 [sy_vr 61, none] [] σ (E2_35  σ)) : ∀ (n : Nat) (x1 : Int32) (σ : St), Ab sy_cu κ 2 [sy_vr 61, sy_vi x1] [] σ (m7_lives_L2  E2_35 n x1 σ) := by
  intro n
  induction n with
  | zero => intros; exact ab_none
  | succ n ih => exact fun x1 σ => m7_lives_L2b_ok hκ   ih hE2_35 x1 σ
def m7_lives_L60b (K60 : Int32 → St → Option (Unit × St)) (E60_77 : St → Option (Unit × St)) (x10 : Int32) (σ : St) : Option (Unit × St) := if 24 ≤ x10 then (E60_77  σ) else (sy_bd (m7_passes x10 σ) (fun _ σ11 => K60 (x10 + 1) σ11))
def m7_lives_L60 (E60_77 : St → Option (Unit × St)) : Nat → Int32 → St → Option (Unit × St)
  | 0 => fun _ _ => none
  | n + 1 => m7_lives_L60b  (m7_lives_L60  E60_77 n) E60_77
set_option maxRecDepth 100000 in
set_option maxHeartbeats 4000000 in
theorem m7_lives_L60b_ok {κ : Kx} (hκ : Gd κ cX7_lives 2 RX7 none 4) {K60 : Int32 → St → Option (Unit × St)} (hK60 : ∀ (x10 : Int32) (σ : St), Ab sy_cu κ 60 [sy_vr 61, sy_vi x10] [] σ (K60 x10 σ)) {E60_77 : St → Option (Unit × St)} (hE60_77 : ∀ (σ : St), Ab sy_cu κ 77 [none, none] [] σ (E60_77  σ)) (x10 : Int32) (σ : St) : Ab sy_cu κ 60 [sy_vr 61, sy_vi x10] [] σ (m7_lives_L60b  K60 E60_77 x10 σ) := by
  unfold m7_lives_L60b
  refine ab_iload_n hκ dX7_lives_60 rfl ?_
  refine ab_bipush (v := 24) hκ dX7_lives_61 rfl ?_
  refine ab_icmp_ge (tgt := 77) hκ dX7_lives_63 rfl ?_ ?_
  · refine ab_fg (lv' := [none, none]) [0, 1] rfl ?_
    exact hE60_77  σ
  · refine ab_aload_n hκ dX7_lives_66 rfl ?_
    refine ab_iload_n hκ dX7_lives_67 rfl ?_
    refine ab_cVv (vs := [.int x10]) (st := []) hκ dX7_lives_68 kl_RX7_195 ki_X7_passes kv_X7_passes (sy_o7 rfl) rfl rfl (m7_passes_ok x10 σ) rfl (by decide) (Nat.le_of_ble_eq_true rfl) rfl (fun _ σ11 => ?_)
    refine ab_iinc (v := (x10 + 1)) (lv' := [sy_vr 61, sy_vi (x10 + 1)]) hκ dX7_lives_71 rfl rfl (by decide) rfl ?_
    refine ab_goto (tgt := 60) hκ dX7_lives_74 rfl ?_
    exact hK60 (x10 + 1) σ11
theorem m7_lives_L60_ok {κ : Kx} (hκ : Gd κ cX7_lives 2 RX7 none 4) {E60_77 : St → Option (Unit × St)} (hE60_77 : ∀ (σ : St), Ab sy_cu κ 77 [none, none] [] σ (E60_77  σ)) : ∀ (n : Nat) (x10 : Int32) (σ : St), Ab sy_cu κ 60 [sy_vr 61, sy_vi x10] [] σ (m7_lives_L60  E60_77 n x10 σ) := by
  intro n
  induction n with
  | zero => intros; exact ab_none
  | succ n ih => exact fun x10 σ => m7_lives_L60b_ok hκ   ih hE60_77 x10 σ
def m7_lives (σ : St) : Option (Unit × St) := m7_lives_L2 (fun  σ5 => sy_lt (sy_sf σ5 61 16 0) (fun σ6 => sy_lt (sy_sf σ6 61 17 (σ6 61 11)) (fun σ7 => sy_lt (sy_sf σ7 61 18 0) (fun σ8 => sy_lt (sy_sf σ8 61 19 0) (fun σ9 => m7_lives_L60 (fun  σ12 => some ((), σ12)) sy_FU 0 σ9))))) sy_FU 0 σ
set_option maxRecDepth 100000 in
set_option maxHeartbeats 4000000 in
theorem m7_lives_ok (σ : St) : Cok sy_cu yX7_lives cX7_lives 2 none 4 [.ref 61] σ (m7_lives σ) := by
  refine cok_of (own := RX7) (by decide) rfl (fun ad => Nat.le_of_ble_eq_true rfl) (fun κ hκ => ?_)
  show Ab sy_cu κ 0 [sy_vr 61, none] [] σ (m7_lives σ)
  unfold m7_lives
  refine ab_iconst (v := 0) hκ dX7_lives_0 rfl ?_
  refine ab_istore_n (lv' := [sy_vr 61, sy_vi 0]) hκ dX7_lives_1 rfl (by decide) rfl ?_
  refine m7_lives_L2_ok hκ ?_ _ _ _
  · intro  σ5
    refine ab_aload_n hκ dX7_lives_35 rfl ?_
    refine ab_iconst (v := 0) hκ dX7_lives_36 rfl ?_
    refine ab_putf hκ (sy_o7 rfl) kp_RX7_167 rfl dX7_lives_37 ?_
    refine ab_lts (fun σ6 => ?_)
    refine ab_aload_n hκ dX7_lives_40 rfl ?_
    refine ab_aload_n hκ dX7_lives_41 rfl ?_
    refine ab_getf (v := .int (σ6 61 11)) hκ (sy_o7 rfl) kf_RX7_67 rfl dX7_lives_42 rfl ?_
    refine ab_putf hκ (sy_o7 rfl) kp_RX7_173 rfl dX7_lives_45 ?_
    refine ab_lts (fun σ7 => ?_)
    refine ab_aload_n hκ dX7_lives_48 rfl ?_
    refine ab_iconst (v := 0) hκ dX7_lives_49 rfl ?_
    refine ab_putf hκ (sy_o7 rfl) kp_RX7_182 rfl dX7_lives_50 ?_
    refine ab_lts (fun σ8 => ?_)
    refine ab_aload_n hκ dX7_lives_53 rfl ?_
    refine ab_iconst (v := 0) hκ dX7_lives_54 rfl ?_
    refine ab_putf hκ (sy_o7 rfl) kp_RX7_192 rfl dX7_lives_55 ?_
    refine ab_lts (fun σ9 => ?_)
    refine ab_iconst (v := 0) hκ dX7_lives_58 rfl ?_
    refine ab_istore_n (lv' := [sy_vr 61, sy_vi 0]) hκ dX7_lives_59 rfl (by decide) rfl ?_
    refine m7_lives_L60_ok hκ ?_ _ _ _
    · intro  σ12
      exact ab_vret hκ dX7_lives_77
-- BreathBandModel.find()V, depth 5
def m7_find (σ : St) : Option (Unit × St) := sy_bd (m7_readsPlayers σ) (fun r2 σ1 => sy_bd (m7_readsNotes σ1) (fun r4 σ3 => sy_bd (m7_seats σ3) (fun _ σ5 => sy_bd (m7_lives σ5) (fun _ σ6 => some ((), σ6)))))
set_option maxRecDepth 100000 in
set_option maxHeartbeats 4000000 in
theorem m7_find_ok (σ : St) : Cok sy_cu yX7_find cX7_find 1 none 5 [.ref 61] σ (m7_find σ) := by
  refine cok_of (own := RX7) (by decide) rfl (fun ad => Nat.le_of_ble_eq_true rfl) (fun κ hκ => ?_)
  show Ab sy_cu κ 0 [sy_vr 61] [] σ (m7_find σ)
  unfold m7_find
  refine ab_aload_n hκ dX7_find_0 rfl ?_
  refine ab_cVi (vs := []) (st := []) hκ dX7_find_1 kl_RX7_130 ki_X7_readsPlayers kv_X7_readsPlayers (sy_o7 rfl) rfl rfl (m7_readsPlayers_ok σ) rfl (by decide) (Nat.le_of_ble_eq_true rfl) rfl (fun r2 σ1 => ?_)
  refine ab_popi hκ dX7_find_4 ?_
  refine ab_aload_n hκ dX7_find_5 rfl ?_
  refine ab_cVi (vs := []) (st := []) hκ dX7_find_6 kl_RX7_134 ki_X7_readsNotes kv_X7_readsNotes (sy_o7 rfl) rfl rfl (m7_readsNotes_ok σ1) rfl (by decide) (Nat.le_of_ble_eq_true rfl) rfl (fun r4 σ3 => ?_)
  refine ab_popi hκ dX7_find_9 ?_
  refine ab_aload_n hκ dX7_find_10 rfl ?_
  refine ab_cVv (vs := []) (st := []) hκ dX7_find_11 kl_RX7_198 ki_X7_seats kv_X7_seats (sy_o7 rfl) rfl rfl (m7_seats_ok σ3) rfl (by decide) (Nat.le_of_ble_eq_true rfl) rfl (fun _ σ5 => ?_)
  refine ab_aload_n hκ dX7_find_14 rfl ?_
  refine ab_cVv (vs := []) (st := []) hκ dX7_find_15 kl_RX7_201 ki_X7_lives kv_X7_lives (sy_o7 rfl) rfl rfl (m7_lives_ok σ5) rfl (by decide) (Nat.le_of_ble_eq_true rfl) rfl (fun _ σ6 => ?_)
  exact ab_vret hκ dX7_find_18
-- BreathBandModel.atBy(II)I, depth 0
def m7_atBy (a1 : Int32) (a2 : Int32) (σ : St) : Option (Int32 × St) := if a2 = 0 then (sy_gd a1 24 (some ((σ 71 (sy_ix a1)), σ))) else (if a2 = 1 then (sy_gd a1 24 (some ((σ 72 (sy_ix a1)), σ))) else (sy_gd a1 24 (some ((σ 73 (sy_ix a1)), σ))))
set_option maxRecDepth 100000 in
set_option maxHeartbeats 4000000 in
theorem m7_atBy_ok (a1 : Int32) (a2 : Int32) (σ : St) : Cok sy_vi yX7_atBy cX7_atBy 3 (some .int) 0 [.ref 61, .int a1, .int a2] σ (m7_atBy a1 a2 σ) := by
  refine cok_of (own := RX7) (by decide) rfl (fun ad => Nat.le_of_ble_eq_true rfl) (fun κ hκ => ?_)
  show Ab sy_vi κ 0 [sy_vr 61, sy_vi a1, sy_vi a2] [] σ (m7_atBy a1 a2 σ)
  unfold m7_atBy
  refine ab_iload_n hκ dX7_atBy_0 rfl ?_
  refine ab_if_ne (tgt := 13) hκ dX7_atBy_1 rfl ?_ ?_
  · refine ab_iload_n hκ dX7_atBy_13 rfl ?_
    refine ab_iconst (v := 1) hκ dX7_atBy_14 rfl ?_
    refine ab_icmp_ne (tgt := 27) hκ dX7_atBy_15 rfl ?_ ?_
    · refine ab_aload_n hκ dX7_atBy_27 rfl ?_
      refine ab_getf (v := .ref 73) hκ (sy_o7 rfl) kf_RX7_43 rfl dX7_atBy_28 rfl ?_
      refine ab_iload_n hκ dX7_atBy_31 rfl ?_
      refine ab_iald hκ rfl dX7_atBy_32 ?_
      exact ab_iret hκ dX7_atBy_33
    · refine ab_aload_n hκ dX7_atBy_18 rfl ?_
      refine ab_getf (v := .ref 72) hκ (sy_o7 rfl) kf_RX7_40 rfl dX7_atBy_19 rfl ?_
      refine ab_iload_n hκ dX7_atBy_22 rfl ?_
      refine ab_iald hκ rfl dX7_atBy_23 ?_
      refine ab_goto (tgt := 33) hκ dX7_atBy_24 rfl ?_
      exact ab_iret hκ dX7_atBy_33
  · refine ab_aload_n hκ dX7_atBy_4 rfl ?_
    refine ab_getf (v := .ref 71) hκ (sy_o7 rfl) kf_RX7_37 rfl dX7_atBy_5 rfl ?_
    refine ab_iload_n hκ dX7_atBy_8 rfl ?_
    refine ab_iald hκ rfl dX7_atBy_9 ?_
    refine ab_goto (tgt := 33) hκ dX7_atBy_10 rfl ?_
    exact ab_iret hκ dX7_atBy_33
-- BreathBandModel.at(II)I, depth 6
def m7_at (a1 : Int32) (a2 : Int32) (σ : St) : Option (Int32 × St) := sy_bd (m7_find σ) (fun _ σ1 => sy_bd (m7_isBeat a1 σ1) (fun r3 σ2 => if r3 = 0 then (some ((-2), σ2)) else (sy_bd (m7_in (Int32.toInt64 a2) 0 2 σ2) (fun r5 σ4 => if r5 = 0 then (some ((-2), σ4)) else (sy_bd (m7_atBy a1 a2 σ4) (fun r7 σ6 => some (r7, σ6)))))))
set_option maxRecDepth 100000 in
set_option maxHeartbeats 4000000 in
theorem m7_at_ok (a1 : Int32) (a2 : Int32) (σ : St) : Cok sy_vi yX7_at cX7_at 3 (some .int) 6 [.ref 61, .int a1, .int a2] σ (m7_at a1 a2 σ) := by
  refine cok_of (own := RX7) (by decide) rfl (fun ad => Nat.le_of_ble_eq_true rfl) (fun κ hκ => ?_)
  show Ab sy_vi κ 0 [sy_vr 61, sy_vi a1, sy_vi a2] [] σ (m7_at a1 a2 σ)
  unfold m7_at
  refine ab_aload_n hκ dX7_at_0 rfl ?_
  refine ab_cVv (vs := []) (st := []) hκ dX7_at_1 kl_RX7_204 ki_X7_find kv_X7_find (sy_o7 rfl) rfl rfl (m7_find_ok σ) rfl (by decide) (Nat.le_of_ble_eq_true rfl) rfl (fun _ σ1 => ?_)
  refine ab_iload_n hκ dX7_at_4 rfl ?_
  refine ab_cSi (vs := [.int a1]) (st := []) hκ dX7_at_5 kl_RX7_152 ki_X7_isBeat kv_X7_isBeat (m7_isBeat_ok a1 σ1) rfl (by decide) (Nat.le_of_ble_eq_true rfl) rfl (fun r3 σ2 => ?_)
  refine ab_if_eq (tgt := 32) hκ dX7_at_8 rfl ?_ ?_
  · refine ab_bipush (v := (-2)) hκ dX7_at_32 rfl ?_
    exact ab_iret hκ dX7_at_34
  · refine ab_iload_n hκ dX7_at_11 rfl ?_
    refine ab_i2l hκ dX7_at_12 ?_
    refine ab_lconst (v := 0) hκ dX7_at_13 rfl ?_
    refine ab_ldc2 hκ dX7_at_14 kn_RX7_89 ?_
    refine ab_cSi (vs := [.long (Int32.toInt64 a2), .long 0, .long 2]) (st := []) hκ dX7_at_17 kl_RX7_76 ki_X7_in kv_X7_in (m7_in_ok (Int32.toInt64 a2) 0 2 σ2) rfl (by decide) (Nat.le_of_ble_eq_true rfl) rfl (fun r5 σ4 => ?_)
    refine ab_if_eq (tgt := 32) hκ dX7_at_20 rfl ?_ ?_
    · refine ab_bipush (v := (-2)) hκ dX7_at_32 rfl ?_
      exact ab_iret hκ dX7_at_34
    · refine ab_aload_n hκ dX7_at_23 rfl ?_
      refine ab_iload_n hκ dX7_at_24 rfl ?_
      refine ab_iload_n hκ dX7_at_25 rfl ?_
      refine ab_cVi (vs := [.int a1, .int a2]) (st := []) hκ dX7_at_26 kl_RX7_207 ki_X7_atBy kv_X7_atBy (sy_o7 rfl) rfl rfl (m7_atBy_ok a1 a2 σ4) rfl (by decide) (Nat.le_of_ble_eq_true rfl) rfl (fun r7 σ6 => ?_)
      refine ab_goto (tgt := 34) hκ dX7_at_29 rfl ?_
      exact ab_iret hκ dX7_at_34
-- BreathBandModel.isNote(I)Z, depth 1
def m7_isNote (a1 : Int32) (σ : St) : Option (Int32 × St) := sy_bd (m7_in (Int32.toInt64 a1) 0 (Int32.toInt64 ((σ 61 9) - 1)) σ) (fun r2 σ1 => sy_zg r2 (some (r2, σ1)))
set_option maxRecDepth 100000 in
set_option maxHeartbeats 4000000 in
theorem m7_isNote_ok (a1 : Int32) (σ : St) : Cok sy_vi yX7_isNote cX7_isNote 2 (some .boolean) 1 [.ref 61, .int a1] σ (m7_isNote a1 σ) := by
  refine cok_of (own := RX7) (by decide) rfl (fun ad => Nat.le_of_ble_eq_true rfl) (fun κ hκ => ?_)
  show Ab sy_vi κ 0 [sy_vr 61, sy_vi a1] [] σ (m7_isNote a1 σ)
  unfold m7_isNote
  refine ab_iload_n hκ dX7_isNote_0 rfl ?_
  refine ab_i2l hκ dX7_isNote_1 ?_
  refine ab_lconst (v := 0) hκ dX7_isNote_2 rfl ?_
  refine ab_aload_n hκ dX7_isNote_3 rfl ?_
  refine ab_getf (v := .int (σ 61 9)) hκ (sy_o7 rfl) kf_RX7_124 rfl dX7_isNote_4 rfl ?_
  refine ab_iconst (v := 1) hκ dX7_isNote_7 rfl ?_
  refine ab_isub hκ dX7_isNote_8 ?_
  refine ab_i2l hκ dX7_isNote_9 ?_
  refine ab_cSi (vs := [.long (Int32.toInt64 a1), .long 0, .long (Int32.toInt64 ((σ 61 9) - 1))]) (st := []) hκ dX7_isNote_10 kl_RX7_76 ki_X7_in kv_X7_in (m7_in_ok (Int32.toInt64 a1) 0 (Int32.toInt64 ((σ 61 9) - 1)) σ) rfl (by decide) (Nat.le_of_ble_eq_true rfl) rfl (fun r2 σ1 => ?_)
  exact ab_zret hκ dX7_isNote_13
-- BreathBandModel.heard(I)I, depth 6
def m7_heard (a1 : Int32) (σ : St) : Option (Int32 × St) := sy_bd (m7_find σ) (fun _ σ1 => sy_bd (m7_isNote a1 σ1) (fun r3 σ2 => if r3 = 0 then (some ((-2), σ2)) else (sy_gd a1 16 (some ((σ2 74 (sy_ix a1)), σ2)))))
set_option maxRecDepth 100000 in
set_option maxHeartbeats 4000000 in
theorem m7_heard_ok (a1 : Int32) (σ : St) : Cok sy_vi yX7_heard cX7_heard 2 (some .int) 6 [.ref 61, .int a1] σ (m7_heard a1 σ) := by
  refine cok_of (own := RX7) (by decide) rfl (fun ad => Nat.le_of_ble_eq_true rfl) (fun κ hκ => ?_)
  show Ab sy_vi κ 0 [sy_vr 61, sy_vi a1] [] σ (m7_heard a1 σ)
  unfold m7_heard
  refine ab_aload_n hκ dX7_heard_0 rfl ?_
  refine ab_cVv (vs := []) (st := []) hκ dX7_heard_1 kl_RX7_204 ki_X7_find kv_X7_find (sy_o7 rfl) rfl rfl (m7_find_ok σ) rfl (by decide) (Nat.le_of_ble_eq_true rfl) rfl (fun _ σ1 => ?_)
  refine ab_aload_n hκ dX7_heard_4 rfl ?_
  refine ab_iload_n hκ dX7_heard_5 rfl ?_
  refine ab_cVi (vs := [.int a1]) (st := []) hκ dX7_heard_6 kl_RX7_210 ki_X7_isNote kv_X7_isNote (sy_o7 rfl) rfl rfl (m7_isNote_ok a1 σ1) rfl (by decide) (Nat.le_of_ble_eq_true rfl) rfl (fun r3 σ2 => ?_)
  refine ab_if_eq (tgt := 21) hκ dX7_heard_9 rfl ?_ ?_
  · refine ab_bipush (v := (-2)) hκ dX7_heard_21 rfl ?_
    exact ab_iret hκ dX7_heard_23
  · refine ab_aload_n hκ dX7_heard_12 rfl ?_
    refine ab_getf (v := .ref 74) hκ (sy_o7 rfl) kf_RX7_46 rfl dX7_heard_13 rfl ?_
    refine ab_iload_n hκ dX7_heard_16 rfl ?_
    refine ab_iald hκ rfl dX7_heard_17 ?_
    refine ab_goto (tgt := 23) hκ dX7_heard_18 rfl ?_
    exact ab_iret hκ dX7_heard_23
-- BreathBandModel.takesBy(II)I, depth 0
def m7_takesBy (a1 : Int32) (a2 : Int32) (σ : St) : Option (Int32 × St) := if a2 = 0 then (sy_gd a1 11 (some ((σ 75 (sy_ix a1)), σ))) else (if a2 = 1 then (sy_gd a1 11 (some ((σ 76 (sy_ix a1)), σ))) else (sy_gd a1 11 (some ((σ 77 (sy_ix a1)), σ))))
set_option maxRecDepth 100000 in
set_option maxHeartbeats 4000000 in
theorem m7_takesBy_ok (a1 : Int32) (a2 : Int32) (σ : St) : Cok sy_vi yX7_takesBy cX7_takesBy 3 (some .int) 0 [.ref 61, .int a1, .int a2] σ (m7_takesBy a1 a2 σ) := by
  refine cok_of (own := RX7) (by decide) rfl (fun ad => Nat.le_of_ble_eq_true rfl) (fun κ hκ => ?_)
  show Ab sy_vi κ 0 [sy_vr 61, sy_vi a1, sy_vi a2] [] σ (m7_takesBy a1 a2 σ)
  unfold m7_takesBy
  refine ab_iload_n hκ dX7_takesBy_0 rfl ?_
  refine ab_if_ne (tgt := 13) hκ dX7_takesBy_1 rfl ?_ ?_
  · refine ab_iload_n hκ dX7_takesBy_13 rfl ?_
    refine ab_iconst (v := 1) hκ dX7_takesBy_14 rfl ?_
    refine ab_icmp_ne (tgt := 27) hκ dX7_takesBy_15 rfl ?_ ?_
    · refine ab_aload_n hκ dX7_takesBy_27 rfl ?_
      refine ab_getf (v := .ref 77) hκ (sy_o7 rfl) kf_RX7_55 rfl dX7_takesBy_28 rfl ?_
      refine ab_iload_n hκ dX7_takesBy_31 rfl ?_
      refine ab_iald hκ rfl dX7_takesBy_32 ?_
      exact ab_iret hκ dX7_takesBy_33
    · refine ab_aload_n hκ dX7_takesBy_18 rfl ?_
      refine ab_getf (v := .ref 76) hκ (sy_o7 rfl) kf_RX7_52 rfl dX7_takesBy_19 rfl ?_
      refine ab_iload_n hκ dX7_takesBy_22 rfl ?_
      refine ab_iald hκ rfl dX7_takesBy_23 ?_
      refine ab_goto (tgt := 33) hκ dX7_takesBy_24 rfl ?_
      exact ab_iret hκ dX7_takesBy_33
  · refine ab_aload_n hκ dX7_takesBy_4 rfl ?_
    refine ab_getf (v := .ref 75) hκ (sy_o7 rfl) kf_RX7_49 rfl dX7_takesBy_5 rfl ?_
    refine ab_iload_n hκ dX7_takesBy_8 rfl ?_
    refine ab_iald hκ rfl dX7_takesBy_9 ?_
    refine ab_goto (tgt := 33) hκ dX7_takesBy_10 rfl ?_
    exact ab_iret hκ dX7_takesBy_33
-- BreathBandModel.takes(II)I, depth 6
def m7_takes (a1 : Int32) (a2 : Int32) (σ : St) : Option (Int32 × St) := sy_bd (m7_find σ) (fun _ σ1 => sy_bd (m7_isPlayer a1 σ1) (fun r3 σ2 => if r3 = 0 then (some ((-2), σ2)) else (sy_bd (m7_in (Int32.toInt64 a2) 0 2 σ2) (fun r5 σ4 => if r5 = 0 then (some ((-2), σ4)) else (sy_bd (m7_takesBy a1 a2 σ4) (fun r7 σ6 => some (r7, σ6)))))))
set_option maxRecDepth 100000 in
set_option maxHeartbeats 4000000 in
theorem m7_takes_ok (a1 : Int32) (a2 : Int32) (σ : St) : Cok sy_vi yX7_takes cX7_takes 3 (some .int) 6 [.ref 61, .int a1, .int a2] σ (m7_takes a1 a2 σ) := by
  refine cok_of (own := RX7) (by decide) rfl (fun ad => Nat.le_of_ble_eq_true rfl) (fun κ hκ => ?_)
  show Ab sy_vi κ 0 [sy_vr 61, sy_vi a1, sy_vi a2] [] σ (m7_takes a1 a2 σ)
  unfold m7_takes
  refine ab_aload_n hκ dX7_takes_0 rfl ?_
  refine ab_cVv (vs := []) (st := []) hκ dX7_takes_1 kl_RX7_204 ki_X7_find kv_X7_find (sy_o7 rfl) rfl rfl (m7_find_ok σ) rfl (by decide) (Nat.le_of_ble_eq_true rfl) rfl (fun _ σ1 => ?_)
  refine ab_aload_n hκ dX7_takes_4 rfl ?_
  refine ab_iload_n hκ dX7_takes_5 rfl ?_
  refine ab_cVi (vs := [.int a1]) (st := []) hκ dX7_takes_6 kl_RX7_142 ki_X7_isPlayer kv_X7_isPlayer (sy_o7 rfl) rfl rfl (m7_isPlayer_ok a1 σ1) rfl (by decide) (Nat.le_of_ble_eq_true rfl) rfl (fun r3 σ2 => ?_)
  refine ab_if_eq (tgt := 33) hκ dX7_takes_9 rfl ?_ ?_
  · refine ab_bipush (v := (-2)) hκ dX7_takes_33 rfl ?_
    exact ab_iret hκ dX7_takes_35
  · refine ab_iload_n hκ dX7_takes_12 rfl ?_
    refine ab_i2l hκ dX7_takes_13 ?_
    refine ab_lconst (v := 0) hκ dX7_takes_14 rfl ?_
    refine ab_ldc2 hκ dX7_takes_15 kn_RX7_89 ?_
    refine ab_cSi (vs := [.long (Int32.toInt64 a2), .long 0, .long 2]) (st := []) hκ dX7_takes_18 kl_RX7_76 ki_X7_in kv_X7_in (m7_in_ok (Int32.toInt64 a2) 0 2 σ2) rfl (by decide) (Nat.le_of_ble_eq_true rfl) rfl (fun r5 σ4 => ?_)
    refine ab_if_eq (tgt := 33) hκ dX7_takes_21 rfl ?_ ?_
    · refine ab_bipush (v := (-2)) hκ dX7_takes_33 rfl ?_
      exact ab_iret hκ dX7_takes_35
    · refine ab_aload_n hκ dX7_takes_24 rfl ?_
      refine ab_iload_n hκ dX7_takes_25 rfl ?_
      refine ab_iload_n hκ dX7_takes_26 rfl ?_
      refine ab_cVi (vs := [.int a1, .int a2]) (st := []) hκ dX7_takes_27 kl_RX7_213 ki_X7_takesBy kv_X7_takesBy (sy_o7 rfl) rfl rfl (m7_takesBy_ok a1 a2 σ4) rfl (by decide) (Nat.le_of_ble_eq_true rfl) rfl (fun r7 σ6 => ?_)
      refine ab_goto (tgt := 35) hκ dX7_takes_30 rfl ?_
      exact ab_iret hκ dX7_takes_35
-- BreathBandModel.soundNow()I, depth 0
def m7_soundNow_L4b (K4 : Int32 → Int32 → St → Option (Int32 × St)) (E4_35 : Int32 → St → Option (Int32 × St)) (x1 : Int32) (x2 : Int32) (σ : St) : Option (Int32 × St) := if (σ 61 9) ≤ x2 then (E4_35 x1 σ) else (sy_gd x2 16 (if (σ 74 (sy_ix x2)) ≤ 0 then (sy_lt (x1 + 0) (fun v3 => K4 v3 (x2 + 1) σ)) else (sy_lt (x1 + 1) (fun v4 => K4 v4 (x2 + 1) σ))))
def m7_soundNow_L4 (E4_35 : Int32 → St → Option (Int32 × St)) : Nat → Int32 → Int32 → St → Option (Int32 × St)
  | 0 => fun _ _ _ => none
  | n + 1 => m7_soundNow_L4b  (m7_soundNow_L4  E4_35 n) E4_35
set_option maxRecDepth 100000 in
set_option maxHeartbeats 4000000 in
theorem m7_soundNow_L4b_ok {κ : Kx} (hκ : Gd κ cX7_soundNow 3 RX7 (some .int) 0) {K4 : Int32 → Int32 → St → Option (Int32 × St)} (hK4 : ∀ (x1 : Int32) (x2 : Int32) (σ : St), Ab sy_vi κ 4 [sy_vr 61, sy_vi x1, sy_vi x2] [] σ (K4 x1 x2 σ)) {E4_35 : Int32 → St → Option (Int32 × St)} (hE4_35 : ∀ (y1 : Int32) (σ : St), Ab sy_vi κ 35 [none, sy_vi y1, none] [] σ (E4_35 y1 σ)) (x1 : Int32) (x2 : Int32) (σ : St) : Ab sy_vi κ 4 [sy_vr 61, sy_vi x1, sy_vi x2] [] σ (m7_soundNow_L4b  K4 E4_35 x1 x2 σ) := by
  unfold m7_soundNow_L4b
  refine ab_iload_n hκ dX7_soundNow_4 rfl ?_
  refine ab_aload_n hκ dX7_soundNow_5 rfl ?_
  refine ab_getf (v := .int (σ 61 9)) hκ (sy_o7 rfl) kf_RX7_124 rfl dX7_soundNow_6 rfl ?_
  refine ab_icmp_ge (tgt := 35) hκ dX7_soundNow_9 rfl ?_ ?_
  · refine ab_fg (lv' := [none, sy_vi x1, none]) [0, 2] rfl ?_
    exact hE4_35 x1 σ
  · refine ab_iload_n hκ dX7_soundNow_12 rfl ?_
    refine ab_aload_n hκ dX7_soundNow_13 rfl ?_
    refine ab_getf (v := .ref 74) hκ (sy_o7 rfl) kf_RX7_46 rfl dX7_soundNow_14 rfl ?_
    refine ab_iload_n hκ dX7_soundNow_17 rfl ?_
    refine ab_iald hκ rfl dX7_soundNow_18 ?_
    refine ab_if_le (tgt := 26) hκ dX7_soundNow_19 rfl ?_ ?_
    · refine ab_iconst (v := 0) hκ dX7_soundNow_26 rfl ?_
      refine ab_iadd hκ dX7_soundNow_27 ?_
      refine ab_lti (fun v3 => ?_)
      refine ab_istore_n (lv' := [sy_vr 61, sy_vi v3, sy_vi x2]) hκ dX7_soundNow_28 rfl (by decide) rfl ?_
      refine ab_iinc (v := (x2 + 1)) (lv' := [sy_vr 61, sy_vi v3, sy_vi (x2 + 1)]) hκ dX7_soundNow_29 rfl rfl (by decide) rfl ?_
      refine ab_goto (tgt := 4) hκ dX7_soundNow_32 rfl ?_
      exact hK4 v3 (x2 + 1) σ
    · refine ab_iconst (v := 1) hκ dX7_soundNow_22 rfl ?_
      refine ab_goto (tgt := 27) hκ dX7_soundNow_23 rfl ?_
      refine ab_iadd hκ dX7_soundNow_27 ?_
      refine ab_lti (fun v4 => ?_)
      refine ab_istore_n (lv' := [sy_vr 61, sy_vi v4, sy_vi x2]) hκ dX7_soundNow_28 rfl (by decide) rfl ?_
      refine ab_iinc (v := (x2 + 1)) (lv' := [sy_vr 61, sy_vi v4, sy_vi (x2 + 1)]) hκ dX7_soundNow_29 rfl rfl (by decide) rfl ?_
      refine ab_goto (tgt := 4) hκ dX7_soundNow_32 rfl ?_
      exact hK4 v4 (x2 + 1) σ
theorem m7_soundNow_L4_ok {κ : Kx} (hκ : Gd κ cX7_soundNow 3 RX7 (some .int) 0) {E4_35 : Int32 → St → Option (Int32 × St)} (hE4_35 : ∀ (y1 : Int32) (σ : St), Ab sy_vi κ 35 [none, sy_vi y1, none] [] σ (E4_35 y1 σ)) : ∀ (n : Nat) (x1 : Int32) (x2 : Int32) (σ : St), Ab sy_vi κ 4 [sy_vr 61, sy_vi x1, sy_vi x2] [] σ (m7_soundNow_L4  E4_35 n x1 x2 σ) := by
  intro n
  induction n with
  | zero => intros; exact ab_none
  | succ n ih => exact fun x1 x2 σ => m7_soundNow_L4b_ok hκ   ih hE4_35 x1 x2 σ
def m7_soundNow (σ : St) : Option (Int32 × St) := m7_soundNow_L4 (fun y5 σ6 => some (y5, σ6)) sy_FU 0 0 σ
set_option maxRecDepth 100000 in
set_option maxHeartbeats 4000000 in
theorem m7_soundNow_ok (σ : St) : Cok sy_vi yX7_soundNow cX7_soundNow 3 (some .int) 0 [.ref 61] σ (m7_soundNow σ) := by
  refine cok_of (own := RX7) (by decide) rfl (fun ad => Nat.le_of_ble_eq_true rfl) (fun κ hκ => ?_)
  show Ab sy_vi κ 0 [sy_vr 61, none, none] [] σ (m7_soundNow σ)
  unfold m7_soundNow
  refine ab_iconst (v := 0) hκ dX7_soundNow_0 rfl ?_
  refine ab_istore_n (lv' := [sy_vr 61, sy_vi 0, none]) hκ dX7_soundNow_1 rfl (by decide) rfl ?_
  refine ab_iconst (v := 0) hκ dX7_soundNow_2 rfl ?_
  refine ab_istore_n (lv' := [sy_vr 61, sy_vi 0, sy_vi 0]) hκ dX7_soundNow_3 rfl (by decide) rfl ?_
  refine m7_soundNow_L4_ok hκ ?_ _ _ _ _
  · intro y5 σ6
    refine ab_iload_n hκ dX7_soundNow_35 rfl ?_
    exact ab_iret hκ dX7_soundNow_36
-- BreathBandModel.sumBy(I)I, depth 1
def m7_sumBy (a1 : Int32) (σ : St) : Option (Int32 × St) := if a1 = 0 then (sy_bd (m7_soundNow σ) (fun r2 σ1 => some (r2, σ1))) else (if a1 = 1 then (some ((σ 61 19), σ)) else (some ((σ 61 18), σ)))
set_option maxRecDepth 100000 in
set_option maxHeartbeats 4000000 in
theorem m7_sumBy_ok (a1 : Int32) (σ : St) : Cok sy_vi yX7_sumBy cX7_sumBy 2 (some .int) 1 [.ref 61, .int a1] σ (m7_sumBy a1 σ) := by
  refine cok_of (own := RX7) (by decide) rfl (fun ad => Nat.le_of_ble_eq_true rfl) (fun κ hκ => ?_)
  show Ab sy_vi κ 0 [sy_vr 61, sy_vi a1] [] σ (m7_sumBy a1 σ)
  unfold m7_sumBy
  refine ab_iload_n hκ dX7_sumBy_0 rfl ?_
  refine ab_if_ne (tgt := 11) hκ dX7_sumBy_1 rfl ?_ ?_
  · refine ab_iload_n hκ dX7_sumBy_11 rfl ?_
    refine ab_iconst (v := 1) hκ dX7_sumBy_12 rfl ?_
    refine ab_icmp_ne (tgt := 23) hκ dX7_sumBy_13 rfl ?_ ?_
    · refine ab_aload_n hκ dX7_sumBy_23 rfl ?_
      refine ab_getf (v := .int (σ 61 18)) hκ (sy_o7 rfl) kf_RX7_182 rfl dX7_sumBy_24 rfl ?_
      exact ab_iret hκ dX7_sumBy_27
    · refine ab_aload_n hκ dX7_sumBy_16 rfl ?_
      refine ab_getf (v := .int (σ 61 19)) hκ (sy_o7 rfl) kf_RX7_192 rfl dX7_sumBy_17 rfl ?_
      refine ab_goto (tgt := 27) hκ dX7_sumBy_20 rfl ?_
      exact ab_iret hκ dX7_sumBy_27
  · refine ab_aload_n hκ dX7_sumBy_4 rfl ?_
    refine ab_cVi (vs := []) (st := []) hκ dX7_sumBy_5 kl_RX7_216 ki_X7_soundNow kv_X7_soundNow (sy_o7 rfl) rfl rfl (m7_soundNow_ok σ) rfl (by decide) (Nat.le_of_ble_eq_true rfl) rfl (fun r2 σ1 => ?_)
    refine ab_goto (tgt := 27) hκ dX7_sumBy_8 rfl ?_
    exact ab_iret hκ dX7_sumBy_27
-- BreathBandModel.sum(I)I, depth 6
def m7_sum (a1 : Int32) (σ : St) : Option (Int32 × St) := sy_bd (m7_find σ) (fun _ σ1 => sy_bd (m7_in (Int32.toInt64 a1) 0 2 σ1) (fun r3 σ2 => if r3 = 0 then (some ((-2), σ2)) else (sy_bd (m7_sumBy a1 σ2) (fun r5 σ4 => some (r5, σ4)))))
set_option maxRecDepth 100000 in
set_option maxHeartbeats 4000000 in
theorem m7_sum_ok (a1 : Int32) (σ : St) : Cok sy_vi yX7_sum cX7_sum 2 (some .int) 6 [.ref 61, .int a1] σ (m7_sum a1 σ) := by
  refine cok_of (own := RX7) (by decide) rfl (fun ad => Nat.le_of_ble_eq_true rfl) (fun κ hκ => ?_)
  show Ab sy_vi κ 0 [sy_vr 61, sy_vi a1] [] σ (m7_sum a1 σ)
  unfold m7_sum
  refine ab_aload_n hκ dX7_sum_0 rfl ?_
  refine ab_cVv (vs := []) (st := []) hκ dX7_sum_1 kl_RX7_204 ki_X7_find kv_X7_find (sy_o7 rfl) rfl rfl (m7_find_ok σ) rfl (by decide) (Nat.le_of_ble_eq_true rfl) rfl (fun _ σ1 => ?_)
  refine ab_iload_n hκ dX7_sum_4 rfl ?_
  refine ab_i2l hκ dX7_sum_5 ?_
  refine ab_lconst (v := 0) hκ dX7_sum_6 rfl ?_
  refine ab_ldc2 hκ dX7_sum_7 kn_RX7_89 ?_
  refine ab_cSi (vs := [.long (Int32.toInt64 a1), .long 0, .long 2]) (st := []) hκ dX7_sum_10 kl_RX7_76 ki_X7_in kv_X7_in (m7_in_ok (Int32.toInt64 a1) 0 2 σ1) rfl (by decide) (Nat.le_of_ble_eq_true rfl) rfl (fun r3 σ2 => ?_)
  refine ab_if_eq (tgt := 24) hκ dX7_sum_13 rfl ?_ ?_
  · refine ab_bipush (v := (-2)) hκ dX7_sum_24 rfl ?_
    exact ab_iret hκ dX7_sum_26
  · refine ab_aload_n hκ dX7_sum_16 rfl ?_
    refine ab_iload_n hκ dX7_sum_17 rfl ?_
    refine ab_cVi (vs := [.int a1]) (st := []) hκ dX7_sum_18 kl_RX7_219 ki_X7_sumBy kv_X7_sumBy (sy_o7 rfl) rfl rfl (m7_sumBy_ok a1 σ2) rfl (by decide) (Nat.le_of_ble_eq_true rfl) rfl (fun r5 σ4 => ?_)
    refine ab_goto (tgt := 26) hκ dX7_sum_21 rfl ?_
    exact ab_iret hκ dX7_sum_26
-- BreathBandModel.flatNow()I, depth 0
def m7_flatNow_L5b (K5 : Int32 → Int32 → St → Option (Int32 × St)) (E5_30 : Int32 → St → Option (Int32 × St)) (x1 : Int32) (x2 : Int32) (σ : St) : Option (Int32 × St) := if x2 < 0 then (E5_30 x1 σ) else (sy_gd x2 24 (if (σ 72 (sy_ix x2)) = 0 then (K5 x2 (x2 + (-1)) σ) else (K5 x1 (x2 + (-1)) σ)))
def m7_flatNow_L5 (E5_30 : Int32 → St → Option (Int32 × St)) : Nat → Int32 → Int32 → St → Option (Int32 × St)
  | 0 => fun _ _ _ => none
  | n + 1 => m7_flatNow_L5b  (m7_flatNow_L5  E5_30 n) E5_30
set_option maxRecDepth 100000 in
set_option maxHeartbeats 4000000 in
theorem m7_flatNow_L5b_ok {κ : Kx} (hκ : Gd κ cX7_flatNow 3 RX7 (some .int) 0) {K5 : Int32 → Int32 → St → Option (Int32 × St)} (hK5 : ∀ (x1 : Int32) (x2 : Int32) (σ : St), Ab sy_vi κ 5 [sy_vr 61, sy_vi x1, sy_vi x2] [] σ (K5 x1 x2 σ)) {E5_30 : Int32 → St → Option (Int32 × St)} (hE5_30 : ∀ (y1 : Int32) (σ : St), Ab sy_vi κ 30 [none, sy_vi y1, none] [] σ (E5_30 y1 σ)) (x1 : Int32) (x2 : Int32) (σ : St) : Ab sy_vi κ 5 [sy_vr 61, sy_vi x1, sy_vi x2] [] σ (m7_flatNow_L5b  K5 E5_30 x1 x2 σ) := by
  unfold m7_flatNow_L5b
  refine ab_iload_n hκ dX7_flatNow_5 rfl ?_
  refine ab_if_lt (tgt := 30) hκ dX7_flatNow_6 rfl ?_ ?_
  · refine ab_fg (lv' := [none, sy_vi x1, none]) [0, 2] rfl ?_
    exact hE5_30 x1 σ
  · refine ab_aload_n hκ dX7_flatNow_9 rfl ?_
    refine ab_getf (v := .ref 72) hκ (sy_o7 rfl) kf_RX7_40 rfl dX7_flatNow_10 rfl ?_
    refine ab_iload_n hκ dX7_flatNow_13 rfl ?_
    refine ab_iald hκ rfl dX7_flatNow_14 ?_
    refine ab_if_ne (tgt := 22) hκ dX7_flatNow_15 rfl ?_ ?_
    · refine ab_iload_n hκ dX7_flatNow_22 rfl ?_
      refine ab_istore_n (lv' := [sy_vr 61, sy_vi x1, sy_vi x2]) hκ dX7_flatNow_23 rfl (by decide) rfl ?_
      refine ab_iinc (v := (x2 + (-1))) (lv' := [sy_vr 61, sy_vi x1, sy_vi (x2 + (-1))]) hκ dX7_flatNow_24 rfl rfl (by decide) rfl ?_
      refine ab_goto (tgt := 5) hκ dX7_flatNow_27 rfl ?_
      exact hK5 x1 (x2 + (-1)) σ
    · refine ab_iload_n hκ dX7_flatNow_18 rfl ?_
      refine ab_goto (tgt := 23) hκ dX7_flatNow_19 rfl ?_
      refine ab_istore_n (lv' := [sy_vr 61, sy_vi x2, sy_vi x2]) hκ dX7_flatNow_23 rfl (by decide) rfl ?_
      refine ab_iinc (v := (x2 + (-1))) (lv' := [sy_vr 61, sy_vi x2, sy_vi (x2 + (-1))]) hκ dX7_flatNow_24 rfl rfl (by decide) rfl ?_
      refine ab_goto (tgt := 5) hκ dX7_flatNow_27 rfl ?_
      exact hK5 x2 (x2 + (-1)) σ
theorem m7_flatNow_L5_ok {κ : Kx} (hκ : Gd κ cX7_flatNow 3 RX7 (some .int) 0) {E5_30 : Int32 → St → Option (Int32 × St)} (hE5_30 : ∀ (y1 : Int32) (σ : St), Ab sy_vi κ 30 [none, sy_vi y1, none] [] σ (E5_30 y1 σ)) : ∀ (n : Nat) (x1 : Int32) (x2 : Int32) (σ : St), Ab sy_vi κ 5 [sy_vr 61, sy_vi x1, sy_vi x2] [] σ (m7_flatNow_L5  E5_30 n x1 x2 σ) := by
  intro n
  induction n with
  | zero => intros; exact ab_none
  | succ n ih => exact fun x1 x2 σ => m7_flatNow_L5b_ok hκ   ih hE5_30 x1 x2 σ
def m7_flatNow (σ : St) : Option (Int32 × St) := m7_flatNow_L5 (fun y3 σ4 => some (y3, σ4)) sy_FU (-1) 23 σ
set_option maxRecDepth 100000 in
set_option maxHeartbeats 4000000 in
theorem m7_flatNow_ok (σ : St) : Cok sy_vi yX7_flatNow cX7_flatNow 3 (some .int) 0 [.ref 61] σ (m7_flatNow σ) := by
  refine cok_of (own := RX7) (by decide) rfl (fun ad => Nat.le_of_ble_eq_true rfl) (fun κ hκ => ?_)
  show Ab sy_vi κ 0 [sy_vr 61, none, none] [] σ (m7_flatNow σ)
  unfold m7_flatNow
  refine ab_iconst (v := (-1)) hκ dX7_flatNow_0 rfl ?_
  refine ab_istore_n (lv' := [sy_vr 61, sy_vi (-1), none]) hκ dX7_flatNow_1 rfl (by decide) rfl ?_
  refine ab_bipush (v := 23) hκ dX7_flatNow_2 rfl ?_
  refine ab_istore_n (lv' := [sy_vr 61, sy_vi (-1), sy_vi 23]) hκ dX7_flatNow_4 rfl (by decide) rfl ?_
  refine m7_flatNow_L5_ok hκ ?_ _ _ _ _
  · intro y3 σ4
    refine ab_iload_n hκ dX7_flatNow_30 rfl ?_
    exact ab_iret hκ dX7_flatNow_31
-- BreathBandModel.flat()I, depth 6
def m7_flat (σ : St) : Option (Int32 × St) := sy_bd (m7_find σ) (fun _ σ1 => sy_bd (m7_flatNow σ1) (fun r3 σ2 => some (r3, σ2)))
set_option maxRecDepth 100000 in
set_option maxHeartbeats 4000000 in
theorem m7_flat_ok (σ : St) : Cok sy_vi yX7_flat cX7_flat 1 (some .int) 6 [.ref 61] σ (m7_flat σ) := by
  refine cok_of (own := RX7) (by decide) rfl (fun ad => Nat.le_of_ble_eq_true rfl) (fun κ hκ => ?_)
  show Ab sy_vi κ 0 [sy_vr 61] [] σ (m7_flat σ)
  unfold m7_flat
  refine ab_aload_n hκ dX7_flat_0 rfl ?_
  refine ab_cVv (vs := []) (st := []) hκ dX7_flat_1 kl_RX7_204 ki_X7_find kv_X7_find (sy_o7 rfl) rfl rfl (m7_find_ok σ) rfl (by decide) (Nat.le_of_ble_eq_true rfl) rfl (fun _ σ1 => ?_)
  refine ab_aload_n hκ dX7_flat_4 rfl ?_
  refine ab_cVi (vs := []) (st := []) hκ dX7_flat_5 kl_RX7_222 ki_X7_flatNow kv_X7_flatNow (sy_o7 rfl) rfl rfl (m7_flatNow_ok σ1) rfl (by decide) (Nat.le_of_ble_eq_true rfl) rfl (fun r3 σ2 => ?_)
  exact ab_iret hκ dX7_flat_8
-- BreathBandModel.silentNow()I, depth 0
def m7_silentNow_L4b (K4 : Int32 → Int32 → St → Option (Int32 × St)) (E4_37 : Int32 → St → Option (Int32 × St)) (x1 : Int32) (x2 : Int32) (σ : St) : Option (Int32 × St) := if (σ 61 7) ≤ x2 then (E4_37 x1 σ) else (sy_gd x2 11 (if (σ 75 (sy_ix x2)) = 0 then (sy_lt (x1 ||| (1 <<< (x2 &&& 31))) (fun v4 => K4 v4 (x2 + 1) σ)) else (sy_lt (x1 ||| 0) (fun v3 => K4 v3 (x2 + 1) σ))))
def m7_silentNow_L4 (E4_37 : Int32 → St → Option (Int32 × St)) : Nat → Int32 → Int32 → St → Option (Int32 × St)
  | 0 => fun _ _ _ => none
  | n + 1 => m7_silentNow_L4b  (m7_silentNow_L4  E4_37 n) E4_37
set_option maxRecDepth 100000 in
set_option maxHeartbeats 4000000 in
theorem m7_silentNow_L4b_ok {κ : Kx} (hκ : Gd κ cX7_silentNow 3 RX7 (some .int) 0) {K4 : Int32 → Int32 → St → Option (Int32 × St)} (hK4 : ∀ (x1 : Int32) (x2 : Int32) (σ : St), Ab sy_vi κ 4 [sy_vr 61, sy_vi x1, sy_vi x2] [] σ (K4 x1 x2 σ)) {E4_37 : Int32 → St → Option (Int32 × St)} (hE4_37 : ∀ (y1 : Int32) (σ : St), Ab sy_vi κ 37 [none, sy_vi y1, none] [] σ (E4_37 y1 σ)) (x1 : Int32) (x2 : Int32) (σ : St) : Ab sy_vi κ 4 [sy_vr 61, sy_vi x1, sy_vi x2] [] σ (m7_silentNow_L4b  K4 E4_37 x1 x2 σ) := by
  unfold m7_silentNow_L4b
  refine ab_iload_n hκ dX7_silentNow_4 rfl ?_
  refine ab_aload_n hκ dX7_silentNow_5 rfl ?_
  refine ab_getf (v := .int (σ 61 7)) hκ (sy_o7 rfl) kf_RX7_113 rfl dX7_silentNow_6 rfl ?_
  refine ab_icmp_ge (tgt := 37) hκ dX7_silentNow_9 rfl ?_ ?_
  · refine ab_fg (lv' := [none, sy_vi x1, none]) [0, 2] rfl ?_
    exact hE4_37 x1 σ
  · refine ab_iload_n hκ dX7_silentNow_12 rfl ?_
    refine ab_aload_n hκ dX7_silentNow_13 rfl ?_
    refine ab_getf (v := .ref 75) hκ (sy_o7 rfl) kf_RX7_49 rfl dX7_silentNow_14 rfl ?_
    refine ab_iload_n hκ dX7_silentNow_17 rfl ?_
    refine ab_iald hκ rfl dX7_silentNow_18 ?_
    refine ab_if_ne (tgt := 28) hκ dX7_silentNow_19 rfl ?_ ?_
    · refine ab_iconst (v := 0) hκ dX7_silentNow_28 rfl ?_
      refine ab_ior hκ dX7_silentNow_29 ?_
      refine ab_lti (fun v3 => ?_)
      refine ab_istore_n (lv' := [sy_vr 61, sy_vi v3, sy_vi x2]) hκ dX7_silentNow_30 rfl (by decide) rfl ?_
      refine ab_iinc (v := (x2 + 1)) (lv' := [sy_vr 61, sy_vi v3, sy_vi (x2 + 1)]) hκ dX7_silentNow_31 rfl rfl (by decide) rfl ?_
      refine ab_goto (tgt := 4) hκ dX7_silentNow_34 rfl ?_
      exact hK4 v3 (x2 + 1) σ
    · refine ab_iconst (v := 1) hκ dX7_silentNow_22 rfl ?_
      refine ab_iload_n hκ dX7_silentNow_23 rfl ?_
      refine ab_ishl hκ dX7_silentNow_24 ?_
      refine ab_goto (tgt := 29) hκ dX7_silentNow_25 rfl ?_
      refine ab_ior hκ dX7_silentNow_29 ?_
      refine ab_lti (fun v4 => ?_)
      refine ab_istore_n (lv' := [sy_vr 61, sy_vi v4, sy_vi x2]) hκ dX7_silentNow_30 rfl (by decide) rfl ?_
      refine ab_iinc (v := (x2 + 1)) (lv' := [sy_vr 61, sy_vi v4, sy_vi (x2 + 1)]) hκ dX7_silentNow_31 rfl rfl (by decide) rfl ?_
      refine ab_goto (tgt := 4) hκ dX7_silentNow_34 rfl ?_
      exact hK4 v4 (x2 + 1) σ
theorem m7_silentNow_L4_ok {κ : Kx} (hκ : Gd κ cX7_silentNow 3 RX7 (some .int) 0) {E4_37 : Int32 → St → Option (Int32 × St)} (hE4_37 : ∀ (y1 : Int32) (σ : St), Ab sy_vi κ 37 [none, sy_vi y1, none] [] σ (E4_37 y1 σ)) : ∀ (n : Nat) (x1 : Int32) (x2 : Int32) (σ : St), Ab sy_vi κ 4 [sy_vr 61, sy_vi x1, sy_vi x2] [] σ (m7_silentNow_L4  E4_37 n x1 x2 σ) := by
  intro n
  induction n with
  | zero => intros; exact ab_none
  | succ n ih => exact fun x1 x2 σ => m7_silentNow_L4b_ok hκ   ih hE4_37 x1 x2 σ
def m7_silentNow (σ : St) : Option (Int32 × St) := m7_silentNow_L4 (fun y5 σ6 => some (y5, σ6)) sy_FU 0 0 σ
set_option maxRecDepth 100000 in
set_option maxHeartbeats 4000000 in
theorem m7_silentNow_ok (σ : St) : Cok sy_vi yX7_silentNow cX7_silentNow 3 (some .int) 0 [.ref 61] σ (m7_silentNow σ) := by
  refine cok_of (own := RX7) (by decide) rfl (fun ad => Nat.le_of_ble_eq_true rfl) (fun κ hκ => ?_)
  show Ab sy_vi κ 0 [sy_vr 61, none, none] [] σ (m7_silentNow σ)
  unfold m7_silentNow
  refine ab_iconst (v := 0) hκ dX7_silentNow_0 rfl ?_
  refine ab_istore_n (lv' := [sy_vr 61, sy_vi 0, none]) hκ dX7_silentNow_1 rfl (by decide) rfl ?_
  refine ab_iconst (v := 0) hκ dX7_silentNow_2 rfl ?_
  refine ab_istore_n (lv' := [sy_vr 61, sy_vi 0, sy_vi 0]) hκ dX7_silentNow_3 rfl (by decide) rfl ?_
  refine m7_silentNow_L4_ok hκ ?_ _ _ _ _
  · intro y5 σ6
    refine ab_iload_n hκ dX7_silentNow_37 rfl ?_
    exact ab_iret hκ dX7_silentNow_38
-- BreathBandModel.silent()I, depth 6
def m7_silent (σ : St) : Option (Int32 × St) := sy_bd (m7_find σ) (fun _ σ1 => sy_bd (m7_silentNow σ1) (fun r3 σ2 => some (r3, σ2)))
set_option maxRecDepth 100000 in
set_option maxHeartbeats 4000000 in
theorem m7_silent_ok (σ : St) : Cok sy_vi yX7_silent cX7_silent 1 (some .int) 6 [.ref 61] σ (m7_silent σ) := by
  refine cok_of (own := RX7) (by decide) rfl (fun ad => Nat.le_of_ble_eq_true rfl) (fun κ hκ => ?_)
  show Ab sy_vi κ 0 [sy_vr 61] [] σ (m7_silent σ)
  unfold m7_silent
  refine ab_aload_n hκ dX7_silent_0 rfl ?_
  refine ab_cVv (vs := []) (st := []) hκ dX7_silent_1 kl_RX7_204 ki_X7_find kv_X7_find (sy_o7 rfl) rfl rfl (m7_find_ok σ) rfl (by decide) (Nat.le_of_ble_eq_true rfl) rfl (fun _ σ1 => ?_)
  refine ab_aload_n hκ dX7_silent_4 rfl ?_
  refine ab_cVi (vs := []) (st := []) hκ dX7_silent_5 kl_RX7_225 ki_X7_silentNow kv_X7_silentNow (sy_o7 rfl) rfl rfl (m7_silentNow_ok σ1) rfl (by decide) (Nat.le_of_ble_eq_true rfl) rfl (fun r3 σ2 => ?_)
  exact ab_iret hκ dX7_silent_8
-- BreathBandModel.greater(II)I, depth 0
def m7_greater (a1 : Int32) (a2 : Int32) (σ : St) : Option (Int32 × St) := if a1 ≤ a2 then (some (a2, σ)) else (some (a1, σ))
set_option maxRecDepth 100000 in
set_option maxHeartbeats 4000000 in
theorem m7_greater_ok (a1 : Int32) (a2 : Int32) (σ : St) : Cok sy_vi yX7_greater cX7_greater 2 (some .int) 0 [.int a1, .int a2] σ (m7_greater a1 a2 σ) := by
  refine cok_of (own := RX7) (by decide) rfl (fun ad => Nat.le_of_ble_eq_true rfl) (fun κ hκ => ?_)
  show Ab sy_vi κ 0 [sy_vi a1, sy_vi a2] [] σ (m7_greater a1 a2 σ)
  unfold m7_greater
  refine ab_iload_n hκ dX7_greater_0 rfl ?_
  refine ab_iload_n hκ dX7_greater_1 rfl ?_
  refine ab_icmp_le (tgt := 9) hκ dX7_greater_2 rfl ?_ ?_
  · refine ab_iload_n hκ dX7_greater_9 rfl ?_
    exact ab_iret hκ dX7_greater_10
  · refine ab_iload_n hκ dX7_greater_5 rfl ?_
    refine ab_goto (tgt := 10) hκ dX7_greater_6 rfl ?_
    exact ab_iret hκ dX7_greater_10
-- BreathBandModel.greedyNow()I, depth 1
def m7_greedyNow_L6b (K6 : Int32 → Int32 → Int32 → St → Option (Int32 × St)) (E6_47 : Int32 → St → Option (Int32 × St)) (x1 : Int32) (x2 : Int32) (x3 : Int32) (σ : St) : Option (Int32 × St) := if (σ 61 7) ≤ x3 then (E6_47 x1 σ) else (sy_gd x3 11 (if (σ 76 (sy_ix x3)) ≤ x2 then (sy_gd x3 11 (sy_bd (m7_greater (σ 76 (sy_ix x3)) x2 σ) (fun r5 σ4 => K6 x1 r5 (x3 + 1) σ4))) else (sy_gd x3 11 (sy_bd (m7_greater (σ 76 (sy_ix x3)) x2 σ) (fun r7 σ6 => K6 x3 r7 (x3 + 1) σ6)))))
def m7_greedyNow_L6 (E6_47 : Int32 → St → Option (Int32 × St)) : Nat → Int32 → Int32 → Int32 → St → Option (Int32 × St)
  | 0 => fun _ _ _ _ => none
  | n + 1 => m7_greedyNow_L6b  (m7_greedyNow_L6  E6_47 n) E6_47
set_option maxRecDepth 100000 in
set_option maxHeartbeats 4000000 in
theorem m7_greedyNow_L6b_ok {κ : Kx} (hκ : Gd κ cX7_greedyNow 4 RX7 (some .int) 1) {K6 : Int32 → Int32 → Int32 → St → Option (Int32 × St)} (hK6 : ∀ (x1 : Int32) (x2 : Int32) (x3 : Int32) (σ : St), Ab sy_vi κ 6 [sy_vr 61, sy_vi x1, sy_vi x2, sy_vi x3] [] σ (K6 x1 x2 x3 σ)) {E6_47 : Int32 → St → Option (Int32 × St)} (hE6_47 : ∀ (y1 : Int32) (σ : St), Ab sy_vi κ 47 [none, sy_vi y1, none, none] [] σ (E6_47 y1 σ)) (x1 : Int32) (x2 : Int32) (x3 : Int32) (σ : St) : Ab sy_vi κ 6 [sy_vr 61, sy_vi x1, sy_vi x2, sy_vi x3] [] σ (m7_greedyNow_L6b  K6 E6_47 x1 x2 x3 σ) := by
  unfold m7_greedyNow_L6b
  refine ab_iload_n hκ dX7_greedyNow_6 rfl ?_
  refine ab_aload_n hκ dX7_greedyNow_7 rfl ?_
  refine ab_getf (v := .int (σ 61 7)) hκ (sy_o7 rfl) kf_RX7_113 rfl dX7_greedyNow_8 rfl ?_
  refine ab_icmp_ge (tgt := 47) hκ dX7_greedyNow_11 rfl ?_ ?_
  · refine ab_fg (lv' := [none, sy_vi x1, none, none]) [0, 2, 3] rfl ?_
    exact hE6_47 x1 σ
  · refine ab_aload_n hκ dX7_greedyNow_14 rfl ?_
    refine ab_getf (v := .ref 76) hκ (sy_o7 rfl) kf_RX7_52 rfl dX7_greedyNow_15 rfl ?_
    refine ab_iload_n hκ dX7_greedyNow_18 rfl ?_
    refine ab_iald hκ rfl dX7_greedyNow_19 ?_
    refine ab_iload_n hκ dX7_greedyNow_20 rfl ?_
    refine ab_icmp_le (tgt := 28) hκ dX7_greedyNow_21 rfl ?_ ?_
    · refine ab_iload_n hκ dX7_greedyNow_28 rfl ?_
      refine ab_istore_n (lv' := [sy_vr 61, sy_vi x1, sy_vi x2, sy_vi x3]) hκ dX7_greedyNow_29 rfl (by decide) rfl ?_
      refine ab_aload_n hκ dX7_greedyNow_30 rfl ?_
      refine ab_getf (v := .ref 76) hκ (sy_o7 rfl) kf_RX7_52 rfl dX7_greedyNow_31 rfl ?_
      refine ab_iload_n hκ dX7_greedyNow_34 rfl ?_
      refine ab_iald hκ rfl dX7_greedyNow_35 ?_
      refine ab_iload_n hκ dX7_greedyNow_36 rfl ?_
      refine ab_cSi (vs := [.int (σ 76 (sy_ix x3)), .int x2]) (st := []) hκ dX7_greedyNow_37 kl_RX7_228 ki_X7_greater kv_X7_greater (m7_greater_ok (σ 76 (sy_ix x3)) x2 σ) rfl (by decide) (Nat.le_of_ble_eq_true rfl) rfl (fun r5 σ4 => ?_)
      refine ab_istore_n (lv' := [sy_vr 61, sy_vi x1, sy_vi r5, sy_vi x3]) hκ dX7_greedyNow_40 rfl (by decide) rfl ?_
      refine ab_iinc (v := (x3 + 1)) (lv' := [sy_vr 61, sy_vi x1, sy_vi r5, sy_vi (x3 + 1)]) hκ dX7_greedyNow_41 rfl rfl (by decide) rfl ?_
      refine ab_goto (tgt := 6) hκ dX7_greedyNow_44 rfl ?_
      exact hK6 x1 r5 (x3 + 1) σ4
    · refine ab_iload_n hκ dX7_greedyNow_24 rfl ?_
      refine ab_goto (tgt := 29) hκ dX7_greedyNow_25 rfl ?_
      refine ab_istore_n (lv' := [sy_vr 61, sy_vi x3, sy_vi x2, sy_vi x3]) hκ dX7_greedyNow_29 rfl (by decide) rfl ?_
      refine ab_aload_n hκ dX7_greedyNow_30 rfl ?_
      refine ab_getf (v := .ref 76) hκ (sy_o7 rfl) kf_RX7_52 rfl dX7_greedyNow_31 rfl ?_
      refine ab_iload_n hκ dX7_greedyNow_34 rfl ?_
      refine ab_iald hκ rfl dX7_greedyNow_35 ?_
      refine ab_iload_n hκ dX7_greedyNow_36 rfl ?_
      refine ab_cSi (vs := [.int (σ 76 (sy_ix x3)), .int x2]) (st := []) hκ dX7_greedyNow_37 kl_RX7_228 ki_X7_greater kv_X7_greater (m7_greater_ok (σ 76 (sy_ix x3)) x2 σ) rfl (by decide) (Nat.le_of_ble_eq_true rfl) rfl (fun r7 σ6 => ?_)
      refine ab_istore_n (lv' := [sy_vr 61, sy_vi x3, sy_vi r7, sy_vi x3]) hκ dX7_greedyNow_40 rfl (by decide) rfl ?_
      refine ab_iinc (v := (x3 + 1)) (lv' := [sy_vr 61, sy_vi x3, sy_vi r7, sy_vi (x3 + 1)]) hκ dX7_greedyNow_41 rfl rfl (by decide) rfl ?_
      refine ab_goto (tgt := 6) hκ dX7_greedyNow_44 rfl ?_
      exact hK6 x3 r7 (x3 + 1) σ6
theorem m7_greedyNow_L6_ok {κ : Kx} (hκ : Gd κ cX7_greedyNow 4 RX7 (some .int) 1) {E6_47 : Int32 → St → Option (Int32 × St)} (hE6_47 : ∀ (y1 : Int32) (σ : St), Ab sy_vi κ 47 [none, sy_vi y1, none, none] [] σ (E6_47 y1 σ)) : ∀ (n : Nat) (x1 : Int32) (x2 : Int32) (x3 : Int32) (σ : St), Ab sy_vi κ 6 [sy_vr 61, sy_vi x1, sy_vi x2, sy_vi x3] [] σ (m7_greedyNow_L6  E6_47 n x1 x2 x3 σ) := by
  intro n
  induction n with
  | zero => intros; exact ab_none
  | succ n ih => exact fun x1 x2 x3 σ => m7_greedyNow_L6b_ok hκ   ih hE6_47 x1 x2 x3 σ
def m7_greedyNow (σ : St) : Option (Int32 × St) := m7_greedyNow_L6 (fun y8 σ9 => some (y8, σ9)) sy_FU (-1) 0 0 σ
set_option maxRecDepth 100000 in
set_option maxHeartbeats 4000000 in
theorem m7_greedyNow_ok (σ : St) : Cok sy_vi yX7_greedyNow cX7_greedyNow 4 (some .int) 1 [.ref 61] σ (m7_greedyNow σ) := by
  refine cok_of (own := RX7) (by decide) rfl (fun ad => Nat.le_of_ble_eq_true rfl) (fun κ hκ => ?_)
  show Ab sy_vi κ 0 [sy_vr 61, none, none, none] [] σ (m7_greedyNow σ)
  unfold m7_greedyNow
  refine ab_iconst (v := (-1)) hκ dX7_greedyNow_0 rfl ?_
  refine ab_istore_n (lv' := [sy_vr 61, sy_vi (-1), none, none]) hκ dX7_greedyNow_1 rfl (by decide) rfl ?_
  refine ab_iconst (v := 0) hκ dX7_greedyNow_2 rfl ?_
  refine ab_istore_n (lv' := [sy_vr 61, sy_vi (-1), sy_vi 0, none]) hκ dX7_greedyNow_3 rfl (by decide) rfl ?_
  refine ab_iconst (v := 0) hκ dX7_greedyNow_4 rfl ?_
  refine ab_istore_n (lv' := [sy_vr 61, sy_vi (-1), sy_vi 0, sy_vi 0]) hκ dX7_greedyNow_5 rfl (by decide) rfl ?_
  refine m7_greedyNow_L6_ok hκ ?_ _ _ _ _ _
  · intro y8 σ9
    refine ab_iload_n hκ dX7_greedyNow_47 rfl ?_
    exact ab_iret hκ dX7_greedyNow_48
-- BreathBandModel.greedy()I, depth 6
def m7_greedy (σ : St) : Option (Int32 × St) := sy_bd (m7_find σ) (fun _ σ1 => sy_bd (m7_greedyNow σ1) (fun r3 σ2 => some (r3, σ2)))
set_option maxRecDepth 100000 in
set_option maxHeartbeats 4000000 in
theorem m7_greedy_ok (σ : St) : Cok sy_vi yX7_greedy cX7_greedy 1 (some .int) 6 [.ref 61] σ (m7_greedy σ) := by
  refine cok_of (own := RX7) (by decide) rfl (fun ad => Nat.le_of_ble_eq_true rfl) (fun κ hκ => ?_)
  show Ab sy_vi κ 0 [sy_vr 61] [] σ (m7_greedy σ)
  unfold m7_greedy
  refine ab_aload_n hκ dX7_greedy_0 rfl ?_
  refine ab_cVv (vs := []) (st := []) hκ dX7_greedy_1 kl_RX7_204 ki_X7_find kv_X7_find (sy_o7 rfl) rfl rfl (m7_find_ok σ) rfl (by decide) (Nat.le_of_ble_eq_true rfl) rfl (fun _ σ1 => ?_)
  refine ab_aload_n hκ dX7_greedy_4 rfl ?_
  refine ab_cVi (vs := []) (st := []) hκ dX7_greedy_5 kl_RX7_231 ki_X7_greedyNow kv_X7_greedyNow (sy_o7 rfl) rfl rfl (m7_greedyNow_ok σ1) rfl (by decide) (Nat.le_of_ble_eq_true rfl) rfl (fun r3 σ2 => ?_)
  exact ab_iret hκ dX7_greedy_8
-- BreathBandModel.fillBy(I)I, depth 5
def m7_fillBy_L13b (K13 : Int32 → Int32 → Int32 → Int32 → Int32 → St → Option (Int32 × St)) (E13_65 : Int32 → Int32 → Int32 → Int32 → St → Option (Int32 × St)) (x2 : Int32) (x3 : Int32) (x4 : Int32) (x5 : Int32) (x6 : Int32) (σ : St) : Option (Int32 × St) := if 100 ≤ x6 then (E13_65 x2 x3 x4 x5 σ) else (sy_lt (sy_sf σ 61 11 x6) (fun σ7 => sy_bd (m7_lives σ7) (fun _ σ8 => sy_bd (m7_soundNow σ8) (fun r10 σ9 => if r10 ≤ x5 then (sy_bd (m7_greater r10 x5 σ9) (fun r12 σ11 => K13 x2 x3 x4 r12 (x6 + 1) σ11)) else (sy_bd (m7_greater r10 x5 σ9) (fun r14 σ13 => K13 x2 x3 x6 r14 (x6 + 1) σ13))))))
def m7_fillBy_L13 (E13_65 : Int32 → Int32 → Int32 → Int32 → St → Option (Int32 × St)) : Nat → Int32 → Int32 → Int32 → Int32 → Int32 → St → Option (Int32 × St)
  | 0 => fun _ _ _ _ _ _ => none
  | n + 1 => m7_fillBy_L13b  (m7_fillBy_L13  E13_65 n) E13_65
set_option maxRecDepth 100000 in
set_option maxHeartbeats 4000000 in
theorem m7_fillBy_L13b_ok {κ : Kx} (hκ : Gd κ cX7_fillBy 7 RX7 (some .int) 5) {K13 : Int32 → Int32 → Int32 → Int32 → Int32 → St → Option (Int32 × St)} (hK13 : ∀ (x2 : Int32) (x3 : Int32) (x4 : Int32) (x5 : Int32) (x6 : Int32) (σ : St), Ab sy_vi κ 13 [sy_vr 61, sy_vi x2, sy_vi x3, sy_vi x4, sy_vi x5, sy_vi x6, none] [] σ (K13 x2 x3 x4 x5 x6 σ)) {E13_65 : Int32 → Int32 → Int32 → Int32 → St → Option (Int32 × St)} (hE13_65 : ∀ (y1 : Int32) (y2 : Int32) (y3 : Int32) (y4 : Int32) (σ : St), Ab sy_vi κ 65 [sy_vr 61, sy_vi y1, sy_vi y2, sy_vi y3, sy_vi y4, none, none] [] σ (E13_65 y1 y2 y3 y4 σ)) (x2 : Int32) (x3 : Int32) (x4 : Int32) (x5 : Int32) (x6 : Int32) (σ : St) : Ab sy_vi κ 13 [sy_vr 61, sy_vi x2, sy_vi x3, sy_vi x4, sy_vi x5, sy_vi x6, none] [] σ (m7_fillBy_L13b  K13 E13_65 x2 x3 x4 x5 x6 σ) := by
  unfold m7_fillBy_L13b
  refine ab_iload hκ dX7_fillBy_13 rfl ?_
  refine ab_bipush (v := 100) hκ dX7_fillBy_15 rfl ?_
  refine ab_icmp_ge (tgt := 65) hκ dX7_fillBy_17 rfl ?_ ?_
  · refine ab_fg (lv' := [sy_vr 61, sy_vi x2, sy_vi x3, sy_vi x4, sy_vi x5, none, none]) [5] rfl ?_
    exact hE13_65 x2 x3 x4 x5 σ
  · refine ab_aload_n hκ dX7_fillBy_20 rfl ?_
    refine ab_iload hκ dX7_fillBy_21 rfl ?_
    refine ab_putf hκ (sy_o7 rfl) kp_RX7_67 rfl dX7_fillBy_23 ?_
    refine ab_lts (fun σ7 => ?_)
    refine ab_aload_n hκ dX7_fillBy_26 rfl ?_
    refine ab_cVv (vs := []) (st := []) hκ dX7_fillBy_27 kl_RX7_201 ki_X7_lives kv_X7_lives (sy_o7 rfl) rfl rfl (m7_lives_ok σ7) rfl (by decide) (Nat.le_of_ble_eq_true rfl) rfl (fun _ σ8 => ?_)
    refine ab_aload_n hκ dX7_fillBy_30 rfl ?_
    refine ab_cVi (vs := []) (st := []) hκ dX7_fillBy_31 kl_RX7_216 ki_X7_soundNow kv_X7_soundNow (sy_o7 rfl) rfl rfl (m7_soundNow_ok σ8) rfl (by decide) (Nat.le_of_ble_eq_true rfl) rfl (fun r10 σ9 => ?_)
    refine ab_istore (lv' := [sy_vr 61, sy_vi x2, sy_vi x3, sy_vi x4, sy_vi x5, sy_vi x6, sy_vi r10]) hκ dX7_fillBy_34 (by decide) rfl ?_
    refine ab_iload hκ dX7_fillBy_36 rfl ?_
    refine ab_iload hκ dX7_fillBy_38 rfl ?_
    refine ab_icmp_le (tgt := 48) hκ dX7_fillBy_40 rfl ?_ ?_
    · refine ab_iload_n hκ dX7_fillBy_48 rfl ?_
      refine ab_istore_n (lv' := [sy_vr 61, sy_vi x2, sy_vi x3, sy_vi x4, sy_vi x5, sy_vi x6, sy_vi r10]) hκ dX7_fillBy_49 rfl (by decide) rfl ?_
      refine ab_iload hκ dX7_fillBy_50 rfl ?_
      refine ab_iload hκ dX7_fillBy_52 rfl ?_
      refine ab_cSi (vs := [.int r10, .int x5]) (st := []) hκ dX7_fillBy_54 kl_RX7_228 ki_X7_greater kv_X7_greater (m7_greater_ok r10 x5 σ9) rfl (by decide) (Nat.le_of_ble_eq_true rfl) rfl (fun r12 σ11 => ?_)
      refine ab_istore (lv' := [sy_vr 61, sy_vi x2, sy_vi x3, sy_vi x4, sy_vi r12, sy_vi x6, sy_vi r10]) hκ dX7_fillBy_57 (by decide) rfl ?_
      refine ab_iinc (v := (x6 + 1)) (lv' := [sy_vr 61, sy_vi x2, sy_vi x3, sy_vi x4, sy_vi r12, sy_vi (x6 + 1), sy_vi r10]) hκ dX7_fillBy_59 rfl rfl (by decide) rfl ?_
      refine ab_goto (tgt := 13) hκ dX7_fillBy_62 rfl ?_
      refine ab_fg (lv' := [sy_vr 61, sy_vi x2, sy_vi x3, sy_vi x4, sy_vi r12, sy_vi (x6 + 1), none]) [6] rfl ?_
      exact hK13 x2 x3 x4 r12 (x6 + 1) σ11
    · refine ab_iload hκ dX7_fillBy_43 rfl ?_
      refine ab_goto (tgt := 49) hκ dX7_fillBy_45 rfl ?_
      refine ab_istore_n (lv' := [sy_vr 61, sy_vi x2, sy_vi x3, sy_vi x6, sy_vi x5, sy_vi x6, sy_vi r10]) hκ dX7_fillBy_49 rfl (by decide) rfl ?_
      refine ab_iload hκ dX7_fillBy_50 rfl ?_
      refine ab_iload hκ dX7_fillBy_52 rfl ?_
      refine ab_cSi (vs := [.int r10, .int x5]) (st := []) hκ dX7_fillBy_54 kl_RX7_228 ki_X7_greater kv_X7_greater (m7_greater_ok r10 x5 σ9) rfl (by decide) (Nat.le_of_ble_eq_true rfl) rfl (fun r14 σ13 => ?_)
      refine ab_istore (lv' := [sy_vr 61, sy_vi x2, sy_vi x3, sy_vi x6, sy_vi r14, sy_vi x6, sy_vi r10]) hκ dX7_fillBy_57 (by decide) rfl ?_
      refine ab_iinc (v := (x6 + 1)) (lv' := [sy_vr 61, sy_vi x2, sy_vi x3, sy_vi x6, sy_vi r14, sy_vi (x6 + 1), sy_vi r10]) hκ dX7_fillBy_59 rfl rfl (by decide) rfl ?_
      refine ab_goto (tgt := 13) hκ dX7_fillBy_62 rfl ?_
      refine ab_fg (lv' := [sy_vr 61, sy_vi x2, sy_vi x3, sy_vi x6, sy_vi r14, sy_vi (x6 + 1), none]) [6] rfl ?_
      exact hK13 x2 x3 x6 r14 (x6 + 1) σ13
theorem m7_fillBy_L13_ok {κ : Kx} (hκ : Gd κ cX7_fillBy 7 RX7 (some .int) 5) {E13_65 : Int32 → Int32 → Int32 → Int32 → St → Option (Int32 × St)} (hE13_65 : ∀ (y1 : Int32) (y2 : Int32) (y3 : Int32) (y4 : Int32) (σ : St), Ab sy_vi κ 65 [sy_vr 61, sy_vi y1, sy_vi y2, sy_vi y3, sy_vi y4, none, none] [] σ (E13_65 y1 y2 y3 y4 σ)) : ∀ (n : Nat) (x2 : Int32) (x3 : Int32) (x4 : Int32) (x5 : Int32) (x6 : Int32) (σ : St), Ab sy_vi κ 13 [sy_vr 61, sy_vi x2, sy_vi x3, sy_vi x4, sy_vi x5, sy_vi x6, none] [] σ (m7_fillBy_L13  E13_65 n x2 x3 x4 x5 x6 σ) := by
  intro n
  induction n with
  | zero => intros; exact ab_none
  | succ n ih => exact fun x2 x3 x4 x5 x6 σ => m7_fillBy_L13b_ok hκ   ih hE13_65 x2 x3 x4 x5 x6 σ
def m7_fillBy (a1 : Int32) (σ : St) : Option (Int32 × St) := sy_lt (σ 61 11) (fun v1 => m7_fillBy_L13 (fun y15 y16 y17 y18 σ19 => sy_lt (sy_sf σ19 61 11 y16) (fun σ20 => if y15 = 0 then (some (y17, σ20)) else (some (y18, σ20)))) sy_FU a1 v1 (-1) (-1) 1 σ)
set_option maxRecDepth 100000 in
set_option maxHeartbeats 4000000 in
theorem m7_fillBy_ok (a1 : Int32) (σ : St) : Cok sy_vi yX7_fillBy cX7_fillBy 7 (some .int) 5 [.ref 61, .int a1] σ (m7_fillBy a1 σ) := by
  refine cok_of (own := RX7) (by decide) rfl (fun ad => Nat.le_of_ble_eq_true rfl) (fun κ hκ => ?_)
  show Ab sy_vi κ 0 [sy_vr 61, sy_vi a1, none, none, none, none, none] [] σ (m7_fillBy a1 σ)
  unfold m7_fillBy
  refine ab_aload_n hκ dX7_fillBy_0 rfl ?_
  refine ab_getf (v := .int (σ 61 11)) hκ (sy_o7 rfl) kf_RX7_67 rfl dX7_fillBy_1 rfl ?_
  refine ab_lti (fun v1 => ?_)
  refine ab_istore_n (lv' := [sy_vr 61, sy_vi a1, sy_vi v1, none, none, none, none]) hκ dX7_fillBy_4 rfl (by decide) rfl ?_
  refine ab_iconst (v := (-1)) hκ dX7_fillBy_5 rfl ?_
  refine ab_istore_n (lv' := [sy_vr 61, sy_vi a1, sy_vi v1, sy_vi (-1), none, none, none]) hκ dX7_fillBy_6 rfl (by decide) rfl ?_
  refine ab_iconst (v := (-1)) hκ dX7_fillBy_7 rfl ?_
  refine ab_istore (lv' := [sy_vr 61, sy_vi a1, sy_vi v1, sy_vi (-1), sy_vi (-1), none, none]) hκ dX7_fillBy_8 (by decide) rfl ?_
  refine ab_iconst (v := 1) hκ dX7_fillBy_10 rfl ?_
  refine ab_istore (lv' := [sy_vr 61, sy_vi a1, sy_vi v1, sy_vi (-1), sy_vi (-1), sy_vi 1, none]) hκ dX7_fillBy_11 (by decide) rfl ?_
  refine m7_fillBy_L13_ok hκ ?_ _ _ _ _ _ _ _
  · intro y15 y16 y17 y18 σ19
    refine ab_aload_n hκ dX7_fillBy_65 rfl ?_
    refine ab_iload_n hκ dX7_fillBy_66 rfl ?_
    refine ab_putf hκ (sy_o7 rfl) kp_RX7_67 rfl dX7_fillBy_67 ?_
    refine ab_lts (fun σ20 => ?_)
    refine ab_iload_n hκ dX7_fillBy_70 rfl ?_
    refine ab_if_ne (tgt := 78) hκ dX7_fillBy_71 rfl ?_ ?_
    · refine ab_iload hκ dX7_fillBy_78 rfl ?_
      exact ab_iret hκ dX7_fillBy_80
    · refine ab_iload_n hκ dX7_fillBy_74 rfl ?_
      refine ab_goto (tgt := 80) hκ dX7_fillBy_75 rfl ?_
      exact ab_iret hκ dX7_fillBy_80
-- BreathBandModel.fill(I)I, depth 6
def m7_fill (a1 : Int32) (σ : St) : Option (Int32 × St) := sy_bd (m7_find σ) (fun _ σ1 => sy_bd (m7_isTwo a1 σ1) (fun r3 σ2 => if r3 = 0 then (some ((-2), σ2)) else (sy_bd (m7_fillBy a1 σ2) (fun r5 σ4 => some (r5, σ4)))))
set_option maxRecDepth 100000 in
set_option maxHeartbeats 4000000 in
theorem m7_fill_ok (a1 : Int32) (σ : St) : Cok sy_vi yX7_fill cX7_fill 2 (some .int) 6 [.ref 61, .int a1] σ (m7_fill a1 σ) := by
  refine cok_of (own := RX7) (by decide) rfl (fun ad => Nat.le_of_ble_eq_true rfl) (fun κ hκ => ?_)
  show Ab sy_vi κ 0 [sy_vr 61, sy_vi a1] [] σ (m7_fill a1 σ)
  unfold m7_fill
  refine ab_aload_n hκ dX7_fill_0 rfl ?_
  refine ab_cVv (vs := []) (st := []) hκ dX7_fill_1 kl_RX7_204 ki_X7_find kv_X7_find (sy_o7 rfl) rfl rfl (m7_find_ok σ) rfl (by decide) (Nat.le_of_ble_eq_true rfl) rfl (fun _ σ1 => ?_)
  refine ab_iload_n hκ dX7_fill_4 rfl ?_
  refine ab_cSi (vs := [.int a1]) (st := []) hκ dX7_fill_5 kl_RX7_104 ki_X7_isTwo kv_X7_isTwo (m7_isTwo_ok a1 σ1) rfl (by decide) (Nat.le_of_ble_eq_true rfl) rfl (fun r3 σ2 => ?_)
  refine ab_if_eq (tgt := 19) hκ dX7_fill_8 rfl ?_ ?_
  · refine ab_bipush (v := (-2)) hκ dX7_fill_19 rfl ?_
    exact ab_iret hκ dX7_fill_21
  · refine ab_aload_n hκ dX7_fill_11 rfl ?_
    refine ab_iload_n hκ dX7_fill_12 rfl ?_
    refine ab_cVi (vs := [.int a1]) (st := []) hκ dX7_fill_13 kl_RX7_234 ki_X7_fillBy kv_X7_fillBy (sy_o7 rfl) rfl rfl (m7_fillBy_ok a1 σ2) rfl (by decide) (Nat.le_of_ble_eq_true rfl) rfl (fun r5 σ4 => ?_)
    refine ab_goto (tgt := 21) hκ dX7_fill_16 rfl ?_
    exact ab_iret hκ dX7_fill_21
-- BreathBandModel.swapBy(I)I, depth 5
def m7_swapBy_J77 (K22 : Int32 → Int32 → Int32 → Int32 → Int32 → St → Option (Int32 × St)) (E22_109 : Int32 → Int32 → Int32 → Int32 → St → Option (Int32 × St)) (x16 : Int32) (x17 : Int32) (x18 : Int32) (x19 : Int32) (x20 : Int32) (x21 : Int32)  (σ : St) : Option (Int32 × St) := sy_bd (m7_greater x20 x17 σ) (fun r23 σ22 => sy_gd x18 11 (sy_lt (sy_sf σ22 78 (sy_ix x18) x18) (fun σ24 => sy_gd x19 11 (sy_lt (sy_sf σ24 78 (sy_ix x19) x19) (fun σ25 => K22 x16 x21 r23 x18 (x19 + 1) σ25)))))
set_option maxRecDepth 100000 in
set_option maxHeartbeats 4000000 in
theorem m7_swapBy_J77_ok {κ : Kx} (hκ : Gd κ cX7_swapBy 7 RX7 (some .int) 5) {K22 : Int32 → Int32 → Int32 → Int32 → Int32 → St → Option (Int32 × St)} (hK22 : ∀ (x6 : Int32) (x7 : Int32) (x8 : Int32) (x9 : Int32) (x10 : Int32) (σ : St), Ab sy_vi κ 22 [sy_vr 61, sy_vi x6, sy_vi x7, sy_vi x8, sy_vi x9, sy_vi x10, none] [] σ (K22 x6 x7 x8 x9 x10 σ)) {E22_109 : Int32 → Int32 → Int32 → Int32 → St → Option (Int32 × St)} (hE22_109 : ∀ (y1 : Int32) (y2 : Int32) (y3 : Int32) (y4 : Int32) (σ : St), Ab sy_vi κ 109 [sy_vr 61, sy_vi y1, sy_vi y2, sy_vi y3, sy_vi y4, none, none] [] σ (E22_109 y1 y2 y3 y4 σ)) (x16 : Int32) (x17 : Int32) (x18 : Int32) (x19 : Int32) (x20 : Int32) (x21 : Int32) (σ : St) : Ab sy_vi κ 77 [sy_vr 61, sy_vi x16, none, sy_vi x17, sy_vi x18, sy_vi x19, sy_vi x20] [.int x21] σ (m7_swapBy_J77 K22 E22_109 x16 x17 x18 x19 x20 x21 σ) := by
  unfold m7_swapBy_J77
  refine ab_istore_n (lv' := [sy_vr 61, sy_vi x16, sy_vi x21, sy_vi x17, sy_vi x18, sy_vi x19, sy_vi x20]) hκ dX7_swapBy_77 rfl (by decide) rfl ?_
  refine ab_iload hκ dX7_swapBy_78 rfl ?_
  refine ab_iload_n hκ dX7_swapBy_80 rfl ?_
  refine ab_cSi (vs := [.int x20, .int x17]) (st := []) hκ dX7_swapBy_81 kl_RX7_228 ki_X7_greater kv_X7_greater (m7_greater_ok x20 x17 σ) rfl (by decide) (Nat.le_of_ble_eq_true rfl) rfl (fun r23 σ22 => ?_)
  refine ab_istore_n (lv' := [sy_vr 61, sy_vi x16, sy_vi x21, sy_vi r23, sy_vi x18, sy_vi x19, sy_vi x20]) hκ dX7_swapBy_84 rfl (by decide) rfl ?_
  refine ab_aload_n hκ dX7_swapBy_85 rfl ?_
  refine ab_getf (v := .ref 78) hκ (sy_o7 rfl) kf_RX7_58 rfl dX7_swapBy_86 rfl ?_
  refine ab_iload hκ dX7_swapBy_89 rfl ?_
  refine ab_iload hκ dX7_swapBy_91 rfl ?_
  refine ab_iast hκ rfl dX7_swapBy_93 ?_
  refine ab_lts (fun σ24 => ?_)
  refine ab_aload_n hκ dX7_swapBy_94 rfl ?_
  refine ab_getf (v := .ref 78) hκ (sy_o7 rfl) kf_RX7_58 rfl dX7_swapBy_95 rfl ?_
  refine ab_iload hκ dX7_swapBy_98 rfl ?_
  refine ab_iload hκ dX7_swapBy_100 rfl ?_
  refine ab_iast hκ rfl dX7_swapBy_102 ?_
  refine ab_lts (fun σ25 => ?_)
  refine ab_iinc (v := (x19 + 1)) (lv' := [sy_vr 61, sy_vi x16, sy_vi x21, sy_vi r23, sy_vi x18, sy_vi (x19 + 1), sy_vi x20]) hκ dX7_swapBy_103 rfl rfl (by decide) rfl ?_
  refine ab_goto (tgt := 22) hκ dX7_swapBy_106 rfl ?_
  refine ab_fg (lv' := [sy_vr 61, sy_vi x16, sy_vi x21, sy_vi r23, sy_vi x18, sy_vi (x19 + 1), none]) [6] rfl ?_
  exact hK22 x16 x21 r23 x18 (x19 + 1) σ25
def m7_swapBy_L22b (K22 : Int32 → Int32 → Int32 → Int32 → Int32 → St → Option (Int32 × St)) (E22_109 : Int32 → Int32 → Int32 → Int32 → St → Option (Int32 × St)) (x6 : Int32) (x7 : Int32) (x8 : Int32) (x9 : Int32) (x10 : Int32) (σ : St) : Option (Int32 × St) := if (σ 61 7) ≤ x10 then (E22_109 x6 x7 x8 x9 σ) else (sy_gd x9 11 (sy_lt (sy_sf σ 78 (sy_ix x9) x10) (fun σ11 => sy_gd x10 11 (sy_lt (sy_sf σ11 78 (sy_ix x10) x9) (fun σ12 => sy_bd (m7_lives σ12) (fun _ σ13 => sy_bd (m7_soundNow σ13) (fun r15 σ14 => if r15 ≤ x8 then (m7_swapBy_J77 K22 E22_109 x6 x8 x9 x10 r15 x7 σ14) else (m7_swapBy_J77 K22 E22_109 x6 x8 x9 x10 r15 ((16 * x9) + x10) σ14))))))))
def m7_swapBy_L22 (E22_109 : Int32 → Int32 → Int32 → Int32 → St → Option (Int32 × St)) : Nat → Int32 → Int32 → Int32 → Int32 → Int32 → St → Option (Int32 × St)
  | 0 => fun _ _ _ _ _ _ => none
  | n + 1 => m7_swapBy_L22b  (m7_swapBy_L22  E22_109 n) E22_109
set_option maxRecDepth 100000 in
set_option maxHeartbeats 4000000 in
theorem m7_swapBy_L22b_ok {κ : Kx} (hκ : Gd κ cX7_swapBy 7 RX7 (some .int) 5) {K22 : Int32 → Int32 → Int32 → Int32 → Int32 → St → Option (Int32 × St)} (hK22 : ∀ (x6 : Int32) (x7 : Int32) (x8 : Int32) (x9 : Int32) (x10 : Int32) (σ : St), Ab sy_vi κ 22 [sy_vr 61, sy_vi x6, sy_vi x7, sy_vi x8, sy_vi x9, sy_vi x10, none] [] σ (K22 x6 x7 x8 x9 x10 σ)) {E22_109 : Int32 → Int32 → Int32 → Int32 → St → Option (Int32 × St)} (hE22_109 : ∀ (y1 : Int32) (y2 : Int32) (y3 : Int32) (y4 : Int32) (σ : St), Ab sy_vi κ 109 [sy_vr 61, sy_vi y1, sy_vi y2, sy_vi y3, sy_vi y4, none, none] [] σ (E22_109 y1 y2 y3 y4 σ)) (x6 : Int32) (x7 : Int32) (x8 : Int32) (x9 : Int32) (x10 : Int32) (σ : St) : Ab sy_vi κ 22 [sy_vr 61, sy_vi x6, sy_vi x7, sy_vi x8, sy_vi x9, sy_vi x10, none] [] σ (m7_swapBy_L22b  K22 E22_109 x6 x7 x8 x9 x10 σ) := by
  unfold m7_swapBy_L22b
  refine ab_iload hκ dX7_swapBy_22 rfl ?_
  refine ab_aload_n hκ dX7_swapBy_24 rfl ?_
  refine ab_getf (v := .int (σ 61 7)) hκ (sy_o7 rfl) kf_RX7_113 rfl dX7_swapBy_25 rfl ?_
  refine ab_icmp_ge (tgt := 109) hκ dX7_swapBy_28 rfl ?_ ?_
  · refine ab_fg (lv' := [sy_vr 61, sy_vi x6, sy_vi x7, sy_vi x8, sy_vi x9, none, none]) [5] rfl ?_
    exact hE22_109 x6 x7 x8 x9 σ
  · refine ab_aload_n hκ dX7_swapBy_31 rfl ?_
    refine ab_getf (v := .ref 78) hκ (sy_o7 rfl) kf_RX7_58 rfl dX7_swapBy_32 rfl ?_
    refine ab_iload hκ dX7_swapBy_35 rfl ?_
    refine ab_iload hκ dX7_swapBy_37 rfl ?_
    refine ab_iast hκ rfl dX7_swapBy_39 ?_
    refine ab_lts (fun σ11 => ?_)
    refine ab_aload_n hκ dX7_swapBy_40 rfl ?_
    refine ab_getf (v := .ref 78) hκ (sy_o7 rfl) kf_RX7_58 rfl dX7_swapBy_41 rfl ?_
    refine ab_iload hκ dX7_swapBy_44 rfl ?_
    refine ab_iload hκ dX7_swapBy_46 rfl ?_
    refine ab_iast hκ rfl dX7_swapBy_48 ?_
    refine ab_lts (fun σ12 => ?_)
    refine ab_aload_n hκ dX7_swapBy_49 rfl ?_
    refine ab_cVv (vs := []) (st := []) hκ dX7_swapBy_50 kl_RX7_201 ki_X7_lives kv_X7_lives (sy_o7 rfl) rfl rfl (m7_lives_ok σ12) rfl (by decide) (Nat.le_of_ble_eq_true rfl) rfl (fun _ σ13 => ?_)
    refine ab_aload_n hκ dX7_swapBy_53 rfl ?_
    refine ab_cVi (vs := []) (st := []) hκ dX7_swapBy_54 kl_RX7_216 ki_X7_soundNow kv_X7_soundNow (sy_o7 rfl) rfl rfl (m7_soundNow_ok σ13) rfl (by decide) (Nat.le_of_ble_eq_true rfl) rfl (fun r15 σ14 => ?_)
    refine ab_istore (lv' := [sy_vr 61, sy_vi x6, sy_vi x7, sy_vi x8, sy_vi x9, sy_vi x10, sy_vi r15]) hκ dX7_swapBy_57 (by decide) rfl ?_
    refine ab_iload hκ dX7_swapBy_59 rfl ?_
    refine ab_iload_n hκ dX7_swapBy_61 rfl ?_
    refine ab_icmp_le (tgt := 76) hκ dX7_swapBy_62 rfl ?_ ?_
    · refine ab_iload_n hκ dX7_swapBy_76 rfl ?_
      refine ab_fg (lv' := [sy_vr 61, sy_vi x6, none, sy_vi x8, sy_vi x9, sy_vi x10, sy_vi r15]) [2] rfl ?_
      exact m7_swapBy_J77_ok hκ hK22 hE22_109 x6 x8 x9 x10 r15 x7 σ14
    · refine ab_bipush (v := 16) hκ dX7_swapBy_65 rfl ?_
      refine ab_iload hκ dX7_swapBy_67 rfl ?_
      refine ab_imul hκ dX7_swapBy_69 ?_
      refine ab_iload hκ dX7_swapBy_70 rfl ?_
      refine ab_iadd hκ dX7_swapBy_72 ?_
      refine ab_goto (tgt := 77) hκ dX7_swapBy_73 rfl ?_
      refine ab_fg (lv' := [sy_vr 61, sy_vi x6, none, sy_vi x8, sy_vi x9, sy_vi x10, sy_vi r15]) [2] rfl ?_
      exact m7_swapBy_J77_ok hκ hK22 hE22_109 x6 x8 x9 x10 r15 ((16 * x9) + x10) σ14
theorem m7_swapBy_L22_ok {κ : Kx} (hκ : Gd κ cX7_swapBy 7 RX7 (some .int) 5) {E22_109 : Int32 → Int32 → Int32 → Int32 → St → Option (Int32 × St)} (hE22_109 : ∀ (y1 : Int32) (y2 : Int32) (y3 : Int32) (y4 : Int32) (σ : St), Ab sy_vi κ 109 [sy_vr 61, sy_vi y1, sy_vi y2, sy_vi y3, sy_vi y4, none, none] [] σ (E22_109 y1 y2 y3 y4 σ)) : ∀ (n : Nat) (x6 : Int32) (x7 : Int32) (x8 : Int32) (x9 : Int32) (x10 : Int32) (σ : St), Ab sy_vi κ 22 [sy_vr 61, sy_vi x6, sy_vi x7, sy_vi x8, sy_vi x9, sy_vi x10, none] [] σ (m7_swapBy_L22  E22_109 n x6 x7 x8 x9 x10 σ) := by
  intro n
  induction n with
  | zero => intros; exact ab_none
  | succ n ih => exact fun x6 x7 x8 x9 x10 σ => m7_swapBy_L22b_ok hκ   ih hE22_109 x6 x7 x8 x9 x10 σ
def m7_swapBy_L7b (K7 : Int32 → Int32 → Int32 → Int32 → St → Option (Int32 × St)) (E7_115 : Int32 → Int32 → Int32 → St → Option (Int32 × St)) (x1 : Int32) (x2 : Int32) (x3 : Int32) (x4 : Int32) (σ : St) : Option (Int32 × St) := if (σ 61 7) ≤ x4 then (E7_115 x1 x2 x3 σ) else (sy_lt (x4 + 1) (fun v5 => m7_swapBy_L22 (fun y26 y27 y28 y29 σ30 => K7 y26 y27 y28 (y29 + 1) σ30) sy_FU x1 x2 x3 x4 v5 σ))
def m7_swapBy_L7 (E7_115 : Int32 → Int32 → Int32 → St → Option (Int32 × St)) : Nat → Int32 → Int32 → Int32 → Int32 → St → Option (Int32 × St)
  | 0 => fun _ _ _ _ _ => none
  | n + 1 => m7_swapBy_L7b  (m7_swapBy_L7  E7_115 n) E7_115
set_option maxRecDepth 100000 in
set_option maxHeartbeats 4000000 in
theorem m7_swapBy_L7b_ok {κ : Kx} (hκ : Gd κ cX7_swapBy 7 RX7 (some .int) 5) {K7 : Int32 → Int32 → Int32 → Int32 → St → Option (Int32 × St)} (hK7 : ∀ (x1 : Int32) (x2 : Int32) (x3 : Int32) (x4 : Int32) (σ : St), Ab sy_vi κ 7 [sy_vr 61, sy_vi x1, sy_vi x2, sy_vi x3, sy_vi x4, none, none] [] σ (K7 x1 x2 x3 x4 σ)) {E7_115 : Int32 → Int32 → Int32 → St → Option (Int32 × St)} (hE7_115 : ∀ (y1 : Int32) (y2 : Int32) (y3 : Int32) (σ : St), Ab sy_vi κ 115 [none, sy_vi y1, sy_vi y2, sy_vi y3, none, none, none] [] σ (E7_115 y1 y2 y3 σ)) (x1 : Int32) (x2 : Int32) (x3 : Int32) (x4 : Int32) (σ : St) : Ab sy_vi κ 7 [sy_vr 61, sy_vi x1, sy_vi x2, sy_vi x3, sy_vi x4, none, none] [] σ (m7_swapBy_L7b  K7 E7_115 x1 x2 x3 x4 σ) := by
  unfold m7_swapBy_L7b
  refine ab_iload hκ dX7_swapBy_7 rfl ?_
  refine ab_aload_n hκ dX7_swapBy_9 rfl ?_
  refine ab_getf (v := .int (σ 61 7)) hκ (sy_o7 rfl) kf_RX7_113 rfl dX7_swapBy_10 rfl ?_
  refine ab_icmp_ge (tgt := 115) hκ dX7_swapBy_13 rfl ?_ ?_
  · refine ab_fg (lv' := [none, sy_vi x1, sy_vi x2, sy_vi x3, none, none, none]) [0, 4] rfl ?_
    exact hE7_115 x1 x2 x3 σ
  · refine ab_iload hκ dX7_swapBy_16 rfl ?_
    refine ab_iconst (v := 1) hκ dX7_swapBy_18 rfl ?_
    refine ab_iadd hκ dX7_swapBy_19 ?_
    refine ab_lti (fun v5 => ?_)
    refine ab_istore (lv' := [sy_vr 61, sy_vi x1, sy_vi x2, sy_vi x3, sy_vi x4, sy_vi v5, none]) hκ dX7_swapBy_20 (by decide) rfl ?_
    refine m7_swapBy_L22_ok hκ ?_ _ _ _ _ _ _ _
    · intro y26 y27 y28 y29 σ30
      refine ab_iinc (v := (y29 + 1)) (lv' := [sy_vr 61, sy_vi y26, sy_vi y27, sy_vi y28, sy_vi (y29 + 1), none, none]) hκ dX7_swapBy_109 rfl rfl (by decide) rfl ?_
      refine ab_goto (tgt := 7) hκ dX7_swapBy_112 rfl ?_
      exact hK7 y26 y27 y28 (y29 + 1) σ30
theorem m7_swapBy_L7_ok {κ : Kx} (hκ : Gd κ cX7_swapBy 7 RX7 (some .int) 5) {E7_115 : Int32 → Int32 → Int32 → St → Option (Int32 × St)} (hE7_115 : ∀ (y1 : Int32) (y2 : Int32) (y3 : Int32) (σ : St), Ab sy_vi κ 115 [none, sy_vi y1, sy_vi y2, sy_vi y3, none, none, none] [] σ (E7_115 y1 y2 y3 σ)) : ∀ (n : Nat) (x1 : Int32) (x2 : Int32) (x3 : Int32) (x4 : Int32) (σ : St), Ab sy_vi κ 7 [sy_vr 61, sy_vi x1, sy_vi x2, sy_vi x3, sy_vi x4, none, none] [] σ (m7_swapBy_L7  E7_115 n x1 x2 x3 x4 σ) := by
  intro n
  induction n with
  | zero => intros; exact ab_none
  | succ n ih => exact fun x1 x2 x3 x4 σ => m7_swapBy_L7b_ok hκ   ih hE7_115 x1 x2 x3 x4 σ
def m7_swapBy (a1 : Int32) (σ : St) : Option (Int32 × St) := m7_swapBy_L7 (fun y31 y32 y33 σ34 => if y32 = (-1) then (some ((-1), σ34)) else (if y31 = 0 then (sy_dv 16 (some ((y32 / 16), σ34))) else (if y31 = 1 then (sy_dv 16 (some ((y32 - y32 / 16 * 16), σ34))) else (some (y33, σ34))))) sy_FU a1 (-1) (-1) 0 σ
set_option maxRecDepth 100000 in
set_option maxHeartbeats 4000000 in
theorem m7_swapBy_ok (a1 : Int32) (σ : St) : Cok sy_vi yX7_swapBy cX7_swapBy 7 (some .int) 5 [.ref 61, .int a1] σ (m7_swapBy a1 σ) := by
  refine cok_of (own := RX7) (by decide) rfl (fun ad => Nat.le_of_ble_eq_true rfl) (fun κ hκ => ?_)
  show Ab sy_vi κ 0 [sy_vr 61, sy_vi a1, none, none, none, none, none] [] σ (m7_swapBy a1 σ)
  unfold m7_swapBy
  refine ab_iconst (v := (-1)) hκ dX7_swapBy_0 rfl ?_
  refine ab_istore_n (lv' := [sy_vr 61, sy_vi a1, sy_vi (-1), none, none, none, none]) hκ dX7_swapBy_1 rfl (by decide) rfl ?_
  refine ab_iconst (v := (-1)) hκ dX7_swapBy_2 rfl ?_
  refine ab_istore_n (lv' := [sy_vr 61, sy_vi a1, sy_vi (-1), sy_vi (-1), none, none, none]) hκ dX7_swapBy_3 rfl (by decide) rfl ?_
  refine ab_iconst (v := 0) hκ dX7_swapBy_4 rfl ?_
  refine ab_istore (lv' := [sy_vr 61, sy_vi a1, sy_vi (-1), sy_vi (-1), sy_vi 0, none, none]) hκ dX7_swapBy_5 (by decide) rfl ?_
  refine m7_swapBy_L7_ok hκ ?_ _ _ _ _ _ _
  · intro y31 y32 y33 σ34
    refine ab_iload_n hκ dX7_swapBy_115 rfl ?_
    refine ab_iconst (v := (-1)) hκ dX7_swapBy_116 rfl ?_
    refine ab_icmp_ne (tgt := 124) hκ dX7_swapBy_117 rfl ?_ ?_
    · refine ab_iload_n hκ dX7_swapBy_124 rfl ?_
      refine ab_if_ne (tgt := 135) hκ dX7_swapBy_125 rfl ?_ ?_
      · refine ab_iload_n hκ dX7_swapBy_135 rfl ?_
        refine ab_iconst (v := 1) hκ dX7_swapBy_136 rfl ?_
        refine ab_icmp_ne (tgt := 147) hκ dX7_swapBy_137 rfl ?_ ?_
        · refine ab_iload_n hκ dX7_swapBy_147 rfl ?_
          exact ab_iret hκ dX7_swapBy_148
        · refine ab_iload_n hκ dX7_swapBy_140 rfl ?_
          refine ab_bipush (v := 16) hκ dX7_swapBy_141 rfl ?_
          refine ab_irem hκ dX7_swapBy_143 ?_
          refine ab_goto (tgt := 148) hκ dX7_swapBy_144 rfl ?_
          exact ab_iret hκ dX7_swapBy_148
      · refine ab_iload_n hκ dX7_swapBy_128 rfl ?_
        refine ab_bipush (v := 16) hκ dX7_swapBy_129 rfl ?_
        refine ab_idiv hκ dX7_swapBy_131 ?_
        refine ab_goto (tgt := 148) hκ dX7_swapBy_132 rfl ?_
        exact ab_iret hκ dX7_swapBy_148
    · refine ab_iconst (v := (-1)) hκ dX7_swapBy_120 rfl ?_
      refine ab_goto (tgt := 148) hκ dX7_swapBy_121 rfl ?_
      exact ab_iret hκ dX7_swapBy_148
-- BreathBandModel.swap(I)I, depth 6
def m7_swap (a1 : Int32) (σ : St) : Option (Int32 × St) := sy_bd (m7_find σ) (fun _ σ1 => sy_bd (m7_in (Int32.toInt64 a1) 0 2 σ1) (fun r3 σ2 => if r3 = 0 then (some ((-2), σ2)) else (sy_bd (m7_swapBy a1 σ2) (fun r5 σ4 => some (r5, σ4)))))
set_option maxRecDepth 100000 in
set_option maxHeartbeats 4000000 in
theorem m7_swap_ok (a1 : Int32) (σ : St) : Cok sy_vi yX7_swap cX7_swap 2 (some .int) 6 [.ref 61, .int a1] σ (m7_swap a1 σ) := by
  refine cok_of (own := RX7) (by decide) rfl (fun ad => Nat.le_of_ble_eq_true rfl) (fun κ hκ => ?_)
  show Ab sy_vi κ 0 [sy_vr 61, sy_vi a1] [] σ (m7_swap a1 σ)
  unfold m7_swap
  refine ab_aload_n hκ dX7_swap_0 rfl ?_
  refine ab_cVv (vs := []) (st := []) hκ dX7_swap_1 kl_RX7_204 ki_X7_find kv_X7_find (sy_o7 rfl) rfl rfl (m7_find_ok σ) rfl (by decide) (Nat.le_of_ble_eq_true rfl) rfl (fun _ σ1 => ?_)
  refine ab_iload_n hκ dX7_swap_4 rfl ?_
  refine ab_i2l hκ dX7_swap_5 ?_
  refine ab_lconst (v := 0) hκ dX7_swap_6 rfl ?_
  refine ab_ldc2 hκ dX7_swap_7 kn_RX7_89 ?_
  refine ab_cSi (vs := [.long (Int32.toInt64 a1), .long 0, .long 2]) (st := []) hκ dX7_swap_10 kl_RX7_76 ki_X7_in kv_X7_in (m7_in_ok (Int32.toInt64 a1) 0 2 σ1) rfl (by decide) (Nat.le_of_ble_eq_true rfl) rfl (fun r3 σ2 => ?_)
  refine ab_if_eq (tgt := 24) hκ dX7_swap_13 rfl ?_ ?_
  · refine ab_bipush (v := (-2)) hκ dX7_swap_24 rfl ?_
    exact ab_iret hκ dX7_swap_26
  · refine ab_aload_n hκ dX7_swap_16 rfl ?_
    refine ab_iload_n hκ dX7_swap_17 rfl ?_
    refine ab_cVi (vs := [.int a1]) (st := []) hκ dX7_swap_18 kl_RX7_237 ki_X7_swapBy kv_X7_swapBy (sy_o7 rfl) rfl rfl (m7_swapBy_ok a1 σ2) rfl (by decide) (Nat.le_of_ble_eq_true rfl) rfl (fun r5 σ4 => ?_)
    refine ab_goto (tgt := 26) hκ dX7_swap_21 rfl ?_
    exact ab_iret hκ dX7_swap_26
-- BreathBandModel.holdBy(I)I, depth 5
def m7_holdBy_L7b (K7 : Int32 → Int32 → Int32 → Int32 → St → Option (Int32 × St)) (E7_56 : Int32 → Int32 → Int32 → St → Option (Int32 × St)) (x1 : Int32) (x2 : Int32) (x3 : Int32) (x4 : Int32) (σ : St) : Option (Int32 × St) := if 24 ≤ x4 then (E7_56 x1 x2 x3 σ) else (sy_lt (sy_sf σ 61 15 x4) (fun σ5 => sy_bd (m7_lives σ5) (fun _ σ6 => sy_bd (m7_soundNow σ6) (fun r8 σ7 => if r8 ≤ x3 then (sy_bd (m7_greater r8 x3 σ7) (fun r10 σ9 => K7 x1 x2 r10 (x4 + 1) σ9)) else (sy_bd (m7_greater r8 x3 σ7) (fun r12 σ11 => K7 x1 x4 r12 (x4 + 1) σ11))))))
def m7_holdBy_L7 (E7_56 : Int32 → Int32 → Int32 → St → Option (Int32 × St)) : Nat → Int32 → Int32 → Int32 → Int32 → St → Option (Int32 × St)
  | 0 => fun _ _ _ _ _ => none
  | n + 1 => m7_holdBy_L7b  (m7_holdBy_L7  E7_56 n) E7_56
set_option maxRecDepth 100000 in
set_option maxHeartbeats 4000000 in
theorem m7_holdBy_L7b_ok {κ : Kx} (hκ : Gd κ cX7_holdBy 6 RX7 (some .int) 5) {K7 : Int32 → Int32 → Int32 → Int32 → St → Option (Int32 × St)} (hK7 : ∀ (x1 : Int32) (x2 : Int32) (x3 : Int32) (x4 : Int32) (σ : St), Ab sy_vi κ 7 [sy_vr 61, sy_vi x1, sy_vi x2, sy_vi x3, sy_vi x4, none] [] σ (K7 x1 x2 x3 x4 σ)) {E7_56 : Int32 → Int32 → Int32 → St → Option (Int32 × St)} (hE7_56 : ∀ (y1 : Int32) (y2 : Int32) (y3 : Int32) (σ : St), Ab sy_vi κ 56 [sy_vr 61, sy_vi y1, sy_vi y2, sy_vi y3, none, none] [] σ (E7_56 y1 y2 y3 σ)) (x1 : Int32) (x2 : Int32) (x3 : Int32) (x4 : Int32) (σ : St) : Ab sy_vi κ 7 [sy_vr 61, sy_vi x1, sy_vi x2, sy_vi x3, sy_vi x4, none] [] σ (m7_holdBy_L7b  K7 E7_56 x1 x2 x3 x4 σ) := by
  unfold m7_holdBy_L7b
  refine ab_iload hκ dX7_holdBy_7 rfl ?_
  refine ab_bipush (v := 24) hκ dX7_holdBy_9 rfl ?_
  refine ab_icmp_ge (tgt := 56) hκ dX7_holdBy_11 rfl ?_ ?_
  · refine ab_fg (lv' := [sy_vr 61, sy_vi x1, sy_vi x2, sy_vi x3, none, none]) [4] rfl ?_
    exact hE7_56 x1 x2 x3 σ
  · refine ab_aload_n hκ dX7_holdBy_14 rfl ?_
    refine ab_iload hκ dX7_holdBy_15 rfl ?_
    refine ab_putf hκ (sy_o7 rfl) kp_RX7_71 rfl dX7_holdBy_17 ?_
    refine ab_lts (fun σ5 => ?_)
    refine ab_aload_n hκ dX7_holdBy_20 rfl ?_
    refine ab_cVv (vs := []) (st := []) hκ dX7_holdBy_21 kl_RX7_201 ki_X7_lives kv_X7_lives (sy_o7 rfl) rfl rfl (m7_lives_ok σ5) rfl (by decide) (Nat.le_of_ble_eq_true rfl) rfl (fun _ σ6 => ?_)
    refine ab_aload_n hκ dX7_holdBy_24 rfl ?_
    refine ab_cVi (vs := []) (st := []) hκ dX7_holdBy_25 kl_RX7_216 ki_X7_soundNow kv_X7_soundNow (sy_o7 rfl) rfl rfl (m7_soundNow_ok σ6) rfl (by decide) (Nat.le_of_ble_eq_true rfl) rfl (fun r8 σ7 => ?_)
    refine ab_istore (lv' := [sy_vr 61, sy_vi x1, sy_vi x2, sy_vi x3, sy_vi x4, sy_vi r8]) hκ dX7_holdBy_28 (by decide) rfl ?_
    refine ab_iload hκ dX7_holdBy_30 rfl ?_
    refine ab_iload_n hκ dX7_holdBy_32 rfl ?_
    refine ab_icmp_le (tgt := 41) hκ dX7_holdBy_33 rfl ?_ ?_
    · refine ab_iload_n hκ dX7_holdBy_41 rfl ?_
      refine ab_istore_n (lv' := [sy_vr 61, sy_vi x1, sy_vi x2, sy_vi x3, sy_vi x4, sy_vi r8]) hκ dX7_holdBy_42 rfl (by decide) rfl ?_
      refine ab_iload hκ dX7_holdBy_43 rfl ?_
      refine ab_iload_n hκ dX7_holdBy_45 rfl ?_
      refine ab_cSi (vs := [.int r8, .int x3]) (st := []) hκ dX7_holdBy_46 kl_RX7_228 ki_X7_greater kv_X7_greater (m7_greater_ok r8 x3 σ7) rfl (by decide) (Nat.le_of_ble_eq_true rfl) rfl (fun r10 σ9 => ?_)
      refine ab_istore_n (lv' := [sy_vr 61, sy_vi x1, sy_vi x2, sy_vi r10, sy_vi x4, sy_vi r8]) hκ dX7_holdBy_49 rfl (by decide) rfl ?_
      refine ab_iinc (v := (x4 + 1)) (lv' := [sy_vr 61, sy_vi x1, sy_vi x2, sy_vi r10, sy_vi (x4 + 1), sy_vi r8]) hκ dX7_holdBy_50 rfl rfl (by decide) rfl ?_
      refine ab_goto (tgt := 7) hκ dX7_holdBy_53 rfl ?_
      refine ab_fg (lv' := [sy_vr 61, sy_vi x1, sy_vi x2, sy_vi r10, sy_vi (x4 + 1), none]) [5] rfl ?_
      exact hK7 x1 x2 r10 (x4 + 1) σ9
    · refine ab_iload hκ dX7_holdBy_36 rfl ?_
      refine ab_goto (tgt := 42) hκ dX7_holdBy_38 rfl ?_
      refine ab_istore_n (lv' := [sy_vr 61, sy_vi x1, sy_vi x4, sy_vi x3, sy_vi x4, sy_vi r8]) hκ dX7_holdBy_42 rfl (by decide) rfl ?_
      refine ab_iload hκ dX7_holdBy_43 rfl ?_
      refine ab_iload_n hκ dX7_holdBy_45 rfl ?_
      refine ab_cSi (vs := [.int r8, .int x3]) (st := []) hκ dX7_holdBy_46 kl_RX7_228 ki_X7_greater kv_X7_greater (m7_greater_ok r8 x3 σ7) rfl (by decide) (Nat.le_of_ble_eq_true rfl) rfl (fun r12 σ11 => ?_)
      refine ab_istore_n (lv' := [sy_vr 61, sy_vi x1, sy_vi x4, sy_vi r12, sy_vi x4, sy_vi r8]) hκ dX7_holdBy_49 rfl (by decide) rfl ?_
      refine ab_iinc (v := (x4 + 1)) (lv' := [sy_vr 61, sy_vi x1, sy_vi x4, sy_vi r12, sy_vi (x4 + 1), sy_vi r8]) hκ dX7_holdBy_50 rfl rfl (by decide) rfl ?_
      refine ab_goto (tgt := 7) hκ dX7_holdBy_53 rfl ?_
      refine ab_fg (lv' := [sy_vr 61, sy_vi x1, sy_vi x4, sy_vi r12, sy_vi (x4 + 1), none]) [5] rfl ?_
      exact hK7 x1 x4 r12 (x4 + 1) σ11
theorem m7_holdBy_L7_ok {κ : Kx} (hκ : Gd κ cX7_holdBy 6 RX7 (some .int) 5) {E7_56 : Int32 → Int32 → Int32 → St → Option (Int32 × St)} (hE7_56 : ∀ (y1 : Int32) (y2 : Int32) (y3 : Int32) (σ : St), Ab sy_vi κ 56 [sy_vr 61, sy_vi y1, sy_vi y2, sy_vi y3, none, none] [] σ (E7_56 y1 y2 y3 σ)) : ∀ (n : Nat) (x1 : Int32) (x2 : Int32) (x3 : Int32) (x4 : Int32) (σ : St), Ab sy_vi κ 7 [sy_vr 61, sy_vi x1, sy_vi x2, sy_vi x3, sy_vi x4, none] [] σ (m7_holdBy_L7  E7_56 n x1 x2 x3 x4 σ) := by
  intro n
  induction n with
  | zero => intros; exact ab_none
  | succ n ih => exact fun x1 x2 x3 x4 σ => m7_holdBy_L7b_ok hκ   ih hE7_56 x1 x2 x3 x4 σ
def m7_holdBy (a1 : Int32) (σ : St) : Option (Int32 × St) := m7_holdBy_L7 (fun y13 y14 y15 σ16 => sy_lt (sy_sf σ16 61 15 (-1)) (fun σ17 => if y13 = 0 then (some (y14, σ17)) else (some (y15, σ17)))) sy_FU a1 (-1) (-1) 0 σ
set_option maxRecDepth 100000 in
set_option maxHeartbeats 4000000 in
theorem m7_holdBy_ok (a1 : Int32) (σ : St) : Cok sy_vi yX7_holdBy cX7_holdBy 6 (some .int) 5 [.ref 61, .int a1] σ (m7_holdBy a1 σ) := by
  refine cok_of (own := RX7) (by decide) rfl (fun ad => Nat.le_of_ble_eq_true rfl) (fun κ hκ => ?_)
  show Ab sy_vi κ 0 [sy_vr 61, sy_vi a1, none, none, none, none] [] σ (m7_holdBy a1 σ)
  unfold m7_holdBy
  refine ab_iconst (v := (-1)) hκ dX7_holdBy_0 rfl ?_
  refine ab_istore_n (lv' := [sy_vr 61, sy_vi a1, sy_vi (-1), none, none, none]) hκ dX7_holdBy_1 rfl (by decide) rfl ?_
  refine ab_iconst (v := (-1)) hκ dX7_holdBy_2 rfl ?_
  refine ab_istore_n (lv' := [sy_vr 61, sy_vi a1, sy_vi (-1), sy_vi (-1), none, none]) hκ dX7_holdBy_3 rfl (by decide) rfl ?_
  refine ab_iconst (v := 0) hκ dX7_holdBy_4 rfl ?_
  refine ab_istore (lv' := [sy_vr 61, sy_vi a1, sy_vi (-1), sy_vi (-1), sy_vi 0, none]) hκ dX7_holdBy_5 (by decide) rfl ?_
  refine m7_holdBy_L7_ok hκ ?_ _ _ _ _ _ _
  · intro y13 y14 y15 σ16
    refine ab_aload_n hκ dX7_holdBy_56 rfl ?_
    refine ab_iconst (v := (-1)) hκ dX7_holdBy_57 rfl ?_
    refine ab_putf hκ (sy_o7 rfl) kp_RX7_71 rfl dX7_holdBy_58 ?_
    refine ab_lts (fun σ17 => ?_)
    refine ab_iload_n hκ dX7_holdBy_61 rfl ?_
    refine ab_if_ne (tgt := 69) hκ dX7_holdBy_62 rfl ?_ ?_
    · refine ab_iload_n hκ dX7_holdBy_69 rfl ?_
      exact ab_iret hκ dX7_holdBy_70
    · refine ab_iload_n hκ dX7_holdBy_65 rfl ?_
      refine ab_goto (tgt := 70) hκ dX7_holdBy_66 rfl ?_
      exact ab_iret hκ dX7_holdBy_70
-- BreathBandModel.hold(I)I, depth 6
def m7_hold (a1 : Int32) (σ : St) : Option (Int32 × St) := sy_bd (m7_find σ) (fun _ σ1 => sy_bd (m7_isTwo a1 σ1) (fun r3 σ2 => if r3 = 0 then (some ((-2), σ2)) else (sy_bd (m7_holdBy a1 σ2) (fun r5 σ4 => some (r5, σ4)))))
set_option maxRecDepth 100000 in
set_option maxHeartbeats 4000000 in
theorem m7_hold_ok (a1 : Int32) (σ : St) : Cok sy_vi yX7_hold cX7_hold 2 (some .int) 6 [.ref 61, .int a1] σ (m7_hold a1 σ) := by
  refine cok_of (own := RX7) (by decide) rfl (fun ad => Nat.le_of_ble_eq_true rfl) (fun κ hκ => ?_)
  show Ab sy_vi κ 0 [sy_vr 61, sy_vi a1] [] σ (m7_hold a1 σ)
  unfold m7_hold
  refine ab_aload_n hκ dX7_hold_0 rfl ?_
  refine ab_cVv (vs := []) (st := []) hκ dX7_hold_1 kl_RX7_204 ki_X7_find kv_X7_find (sy_o7 rfl) rfl rfl (m7_find_ok σ) rfl (by decide) (Nat.le_of_ble_eq_true rfl) rfl (fun _ σ1 => ?_)
  refine ab_iload_n hκ dX7_hold_4 rfl ?_
  refine ab_cSi (vs := [.int a1]) (st := []) hκ dX7_hold_5 kl_RX7_104 ki_X7_isTwo kv_X7_isTwo (m7_isTwo_ok a1 σ1) rfl (by decide) (Nat.le_of_ble_eq_true rfl) rfl (fun r3 σ2 => ?_)
  refine ab_if_eq (tgt := 19) hκ dX7_hold_8 rfl ?_ ?_
  · refine ab_bipush (v := (-2)) hκ dX7_hold_19 rfl ?_
    exact ab_iret hκ dX7_hold_21
  · refine ab_aload_n hκ dX7_hold_11 rfl ?_
    refine ab_iload_n hκ dX7_hold_12 rfl ?_
    refine ab_cVi (vs := [.int a1]) (st := []) hκ dX7_hold_13 kl_RX7_240 ki_X7_holdBy kv_X7_holdBy (sy_o7 rfl) rfl rfl (m7_holdBy_ok a1 σ2) rfl (by decide) (Nat.le_of_ble_eq_true rfl) rfl (fun r5 σ4 => ?_)
    refine ab_goto (tgt := 21) hκ dX7_hold_16 rfl ?_
    exact ab_iret hκ dX7_hold_21
-- BreathBandModel.isSpared(I)Z, depth 5
def m7_isSpared_L18b (K18 : Int32 → Int32 → St → Option (Int32 × St)) (E18_68 : Int32 → St → Option (Int32 × St)) (x4 : Int32) (x5 : Int32) (σ : St) : Option (Int32 × St) := if (σ 61 9) ≤ x5 then (E18_68 x4 σ) else (if x4 = 0 then (K18 0 (x5 + 1) σ) else (sy_gd x5 16 (if 0 < (σ 74 (sy_ix x5)) then (K18 1 (x5 + 1) σ) else (sy_gd ((2 * x5) + 1) 32 (sy_bd (m7_isPlayer (σ 69 (sy_ix ((2 * x5) + 1))) σ) (fun r7 σ6 => if r7 = 0 then (K18 1 (x5 + 1) σ6) else (K18 0 (x5 + 1) σ6)))))))
def m7_isSpared_L18 (E18_68 : Int32 → St → Option (Int32 × St)) : Nat → Int32 → Int32 → St → Option (Int32 × St)
  | 0 => fun _ _ _ => none
  | n + 1 => m7_isSpared_L18b  (m7_isSpared_L18  E18_68 n) E18_68
set_option maxRecDepth 100000 in
set_option maxHeartbeats 4000000 in
theorem m7_isSpared_L18b_ok {κ : Kx} (hκ : Gd κ cX7_isSpared 4 RX7 (some .boolean) 5) {K18 : Int32 → Int32 → St → Option (Int32 × St)} (hK18 : ∀ (x4 : Int32) (x5 : Int32) (σ : St), Ab sy_vi κ 18 [sy_vr 61, none, sy_vi x4, sy_vi x5] [] σ (K18 x4 x5 σ)) {E18_68 : Int32 → St → Option (Int32 × St)} (hE18_68 : ∀ (y2 : Int32) (σ : St), Ab sy_vi κ 68 [none, none, sy_vi y2, none] [] σ (E18_68 y2 σ)) (x4 : Int32) (x5 : Int32) (σ : St) : Ab sy_vi κ 18 [sy_vr 61, none, sy_vi x4, sy_vi x5] [] σ (m7_isSpared_L18b  K18 E18_68 x4 x5 σ) := by
  unfold m7_isSpared_L18b
  refine ab_iload_n hκ dX7_isSpared_18 rfl ?_
  refine ab_aload_n hκ dX7_isSpared_19 rfl ?_
  refine ab_getf (v := .int (σ 61 9)) hκ (sy_o7 rfl) kf_RX7_124 rfl dX7_isSpared_20 rfl ?_
  refine ab_icmp_ge (tgt := 68) hκ dX7_isSpared_23 rfl ?_ ?_
  · refine ab_fg (lv' := [none, none, sy_vi x4, none]) [0, 3] rfl ?_
    exact hE18_68 x4 σ
  · refine ab_iload_n hκ dX7_isSpared_26 rfl ?_
    refine ab_if_eq (tgt := 60) hκ dX7_isSpared_27 rfl ?_ ?_
    · refine ab_iconst (v := 0) hκ dX7_isSpared_60 rfl ?_
      refine ab_istore_n (lv' := [sy_vr 61, none, sy_vi 0, sy_vi x5]) hκ dX7_isSpared_61 rfl (by decide) rfl ?_
      refine ab_iinc (v := (x5 + 1)) (lv' := [sy_vr 61, none, sy_vi 0, sy_vi (x5 + 1)]) hκ dX7_isSpared_62 rfl rfl (by decide) rfl ?_
      refine ab_goto (tgt := 18) hκ dX7_isSpared_65 rfl ?_
      exact hK18 0 (x5 + 1) σ
    · refine ab_aload_n hκ dX7_isSpared_30 rfl ?_
      refine ab_getf (v := .ref 74) hκ (sy_o7 rfl) kf_RX7_46 rfl dX7_isSpared_31 rfl ?_
      refine ab_iload_n hκ dX7_isSpared_34 rfl ?_
      refine ab_iald hκ rfl dX7_isSpared_35 ?_
      refine ab_if_gt (tgt := 56) hκ dX7_isSpared_36 rfl ?_ ?_
      · refine ab_iconst (v := 1) hκ dX7_isSpared_56 rfl ?_
        refine ab_goto (tgt := 61) hκ dX7_isSpared_57 rfl ?_
        refine ab_istore_n (lv' := [sy_vr 61, none, sy_vi 1, sy_vi x5]) hκ dX7_isSpared_61 rfl (by decide) rfl ?_
        refine ab_iinc (v := (x5 + 1)) (lv' := [sy_vr 61, none, sy_vi 1, sy_vi (x5 + 1)]) hκ dX7_isSpared_62 rfl rfl (by decide) rfl ?_
        refine ab_goto (tgt := 18) hκ dX7_isSpared_65 rfl ?_
        exact hK18 1 (x5 + 1) σ
      · refine ab_aload_n hκ dX7_isSpared_39 rfl ?_
        refine ab_aload_n hκ dX7_isSpared_40 rfl ?_
        refine ab_getf (v := .ref 69) hκ (sy_o7 rfl) kf_RX7_31 rfl dX7_isSpared_41 rfl ?_
        refine ab_iconst (v := 2) hκ dX7_isSpared_44 rfl ?_
        refine ab_iload_n hκ dX7_isSpared_45 rfl ?_
        refine ab_imul hκ dX7_isSpared_46 ?_
        refine ab_iconst (v := 1) hκ dX7_isSpared_47 rfl ?_
        refine ab_iadd hκ dX7_isSpared_48 ?_
        refine ab_iald hκ rfl dX7_isSpared_49 ?_
        refine ab_cVi (vs := [.int (σ 69 (sy_ix ((2 * x5) + 1)))]) (st := []) hκ dX7_isSpared_50 kl_RX7_142 ki_X7_isPlayer kv_X7_isPlayer (sy_o7 rfl) rfl rfl (m7_isPlayer_ok (σ 69 (sy_ix ((2 * x5) + 1))) σ) rfl (by decide) (Nat.le_of_ble_eq_true rfl) rfl (fun r7 σ6 => ?_)
        refine ab_if_ne (tgt := 60) hκ dX7_isSpared_53 rfl ?_ ?_
        · refine ab_iconst (v := 0) hκ dX7_isSpared_60 rfl ?_
          refine ab_istore_n (lv' := [sy_vr 61, none, sy_vi 0, sy_vi x5]) hκ dX7_isSpared_61 rfl (by decide) rfl ?_
          refine ab_iinc (v := (x5 + 1)) (lv' := [sy_vr 61, none, sy_vi 0, sy_vi (x5 + 1)]) hκ dX7_isSpared_62 rfl rfl (by decide) rfl ?_
          refine ab_goto (tgt := 18) hκ dX7_isSpared_65 rfl ?_
          exact hK18 0 (x5 + 1) σ6
        · refine ab_iconst (v := 1) hκ dX7_isSpared_56 rfl ?_
          refine ab_goto (tgt := 61) hκ dX7_isSpared_57 rfl ?_
          refine ab_istore_n (lv' := [sy_vr 61, none, sy_vi 1, sy_vi x5]) hκ dX7_isSpared_61 rfl (by decide) rfl ?_
          refine ab_iinc (v := (x5 + 1)) (lv' := [sy_vr 61, none, sy_vi 1, sy_vi (x5 + 1)]) hκ dX7_isSpared_62 rfl rfl (by decide) rfl ?_
          refine ab_goto (tgt := 18) hκ dX7_isSpared_65 rfl ?_
          exact hK18 1 (x5 + 1) σ6
theorem m7_isSpared_L18_ok {κ : Kx} (hκ : Gd κ cX7_isSpared 4 RX7 (some .boolean) 5) {E18_68 : Int32 → St → Option (Int32 × St)} (hE18_68 : ∀ (y2 : Int32) (σ : St), Ab sy_vi κ 68 [none, none, sy_vi y2, none] [] σ (E18_68 y2 σ)) : ∀ (n : Nat) (x4 : Int32) (x5 : Int32) (σ : St), Ab sy_vi κ 18 [sy_vr 61, none, sy_vi x4, sy_vi x5] [] σ (m7_isSpared_L18  E18_68 n x4 x5 σ) := by
  intro n
  induction n with
  | zero => intros; exact ab_none
  | succ n ih => exact fun x4 x5 σ => m7_isSpared_L18b_ok hκ   ih hE18_68 x4 x5 σ
def m7_isSpared (a1 : Int32) (σ : St) : Option (Int32 × St) := sy_lt (sy_sf σ 61 14 a1) (fun σ1 => sy_bd (m7_lives σ1) (fun _ σ2 => sy_lt (sy_sf σ2 61 14 0) (fun σ3 => m7_isSpared_L18 (fun y8 σ9 => sy_zg y8 (some (y8, σ9))) sy_FU 1 0 σ3)))
set_option maxRecDepth 100000 in
set_option maxHeartbeats 4000000 in
theorem m7_isSpared_ok (a1 : Int32) (σ : St) : Cok sy_vi yX7_isSpared cX7_isSpared 4 (some .boolean) 5 [.ref 61, .int a1] σ (m7_isSpared a1 σ) := by
  refine cok_of (own := RX7) (by decide) rfl (fun ad => Nat.le_of_ble_eq_true rfl) (fun κ hκ => ?_)
  show Ab sy_vi κ 0 [sy_vr 61, sy_vi a1, none, none] [] σ (m7_isSpared a1 σ)
  unfold m7_isSpared
  refine ab_aload_n hκ dX7_isSpared_0 rfl ?_
  refine ab_iload_n hκ dX7_isSpared_1 rfl ?_
  refine ab_putf hκ (sy_o7 rfl) kp_RX7_160 rfl dX7_isSpared_2 ?_
  refine ab_lts (fun σ1 => ?_)
  refine ab_aload_n hκ dX7_isSpared_5 rfl ?_
  refine ab_cVv (vs := []) (st := []) hκ dX7_isSpared_6 kl_RX7_201 ki_X7_lives kv_X7_lives (sy_o7 rfl) rfl rfl (m7_lives_ok σ1) rfl (by decide) (Nat.le_of_ble_eq_true rfl) rfl (fun _ σ2 => ?_)
  refine ab_aload_n hκ dX7_isSpared_9 rfl ?_
  refine ab_iconst (v := 0) hκ dX7_isSpared_10 rfl ?_
  refine ab_putf hκ (sy_o7 rfl) kp_RX7_160 rfl dX7_isSpared_11 ?_
  refine ab_lts (fun σ3 => ?_)
  refine ab_iconst (v := 1) hκ dX7_isSpared_14 rfl ?_
  refine ab_istore_n (lv' := [sy_vr 61, sy_vi a1, sy_vi 1, none]) hκ dX7_isSpared_15 rfl (by decide) rfl ?_
  refine ab_iconst (v := 0) hκ dX7_isSpared_16 rfl ?_
  refine ab_istore_n (lv' := [sy_vr 61, sy_vi a1, sy_vi 1, sy_vi 0]) hκ dX7_isSpared_17 rfl (by decide) rfl ?_
  refine ab_fg (lv' := [sy_vr 61, none, sy_vi 1, sy_vi 0]) [1] rfl ?_
  refine m7_isSpared_L18_ok hκ ?_ _ _ _ _
  · intro y8 σ9
    refine ab_iload_n hκ dX7_isSpared_68 rfl ?_
    exact ab_zret hκ dX7_isSpared_69
-- BreathBandModel.spareBy(I)I, depth 6
def m7_spareBy_L21b (K21 : Int32 → Int32 → St → Option (Int32 × St)) (E21_39 : Int32 → Int32 → St → Option (Int32 × St)) (E21_64 : Int32 → St → Option (Int32 × St)) (x3 : Int32) (x4 : Int32) (σ : St) : Option (Int32 × St) := if (σ 61 12) ≤ x4 then (E21_64 x3 σ) else (sy_bd (m7_isSpared (1 <<< (x4 &&& 31)) σ) (fun r6 σ5 => if r6 = 0 then (K21 x3 (x4 + 1) σ5) else (E21_39 x3 x4 σ5)))
def m7_spareBy_L21 (E21_39 : Int32 → Int32 → St → Option (Int32 × St)) (E21_64 : Int32 → St → Option (Int32 × St)) : Nat → Int32 → Int32 → St → Option (Int32 × St)
  | 0 => fun _ _ _ => none
  | n + 1 => m7_spareBy_L21b  (m7_spareBy_L21  E21_39 E21_64 n) E21_39 E21_64
set_option maxRecDepth 100000 in
set_option maxHeartbeats 4000000 in
theorem m7_spareBy_L21b_ok {κ : Kx} (hκ : Gd κ cX7_spareBy 4 RX7 (some .int) 6) {K21 : Int32 → Int32 → St → Option (Int32 × St)} (hK21 : ∀ (x3 : Int32) (x4 : Int32) (σ : St), Ab sy_vi κ 21 [sy_vr 61, sy_vi x3, sy_vi x4, none] [] σ (K21 x3 x4 σ)) {E21_39 : Int32 → Int32 → St → Option (Int32 × St)} (hE21_39 : ∀ (y1 : Int32) (y2 : Int32) (σ : St), Ab sy_vi κ 39 [none, sy_vi y1, sy_vi y2, none] [] σ (E21_39 y1 y2 σ)) {E21_64 : Int32 → St → Option (Int32 × St)} (hE21_64 : ∀ (y1 : Int32) (σ : St), Ab sy_vi κ 64 [sy_vr 61, sy_vi y1, none, none] [] σ (E21_64 y1 σ)) (x3 : Int32) (x4 : Int32) (σ : St) : Ab sy_vi κ 21 [sy_vr 61, sy_vi x3, sy_vi x4, none] [] σ (m7_spareBy_L21b  K21 E21_39 E21_64 x3 x4 σ) := by
  unfold m7_spareBy_L21b
  refine ab_iload_n hκ dX7_spareBy_21 rfl ?_
  refine ab_aload_n hκ dX7_spareBy_22 rfl ?_
  refine ab_getf (v := .int (σ 61 12)) hκ (sy_o7 rfl) kf_RX7_155 rfl dX7_spareBy_23 rfl ?_
  refine ab_icmp_ge (tgt := 64) hκ dX7_spareBy_26 rfl ?_ ?_
  · refine ab_fg (lv' := [sy_vr 61, sy_vi x3, none, none]) [2] rfl ?_
    exact hE21_64 x3 σ
  · refine ab_aload_n hκ dX7_spareBy_29 rfl ?_
    refine ab_iconst (v := 1) hκ dX7_spareBy_30 rfl ?_
    refine ab_iload_n hκ dX7_spareBy_31 rfl ?_
    refine ab_ishl hκ dX7_spareBy_32 ?_
    refine ab_cVi (vs := [.int (1 <<< (x4 &&& 31))]) (st := []) hκ dX7_spareBy_33 kl_RX7_243 ki_X7_isSpared kv_X7_isSpared (sy_o7 rfl) rfl rfl (m7_isSpared_ok (1 <<< (x4 &&& 31)) σ) rfl (by decide) (Nat.le_of_ble_eq_true rfl) rfl (fun r6 σ5 => ?_)
    refine ab_if_eq (tgt := 58) hκ dX7_spareBy_36 rfl ?_ ?_
    · refine ab_iinc (v := (x4 + 1)) (lv' := [sy_vr 61, sy_vi x3, sy_vi (x4 + 1), none]) hκ dX7_spareBy_58 rfl rfl (by decide) rfl ?_
      refine ab_goto (tgt := 21) hκ dX7_spareBy_61 rfl ?_
      exact hK21 x3 (x4 + 1) σ5
    · refine ab_fg (lv' := [none, sy_vi x3, sy_vi x4, none]) [0] rfl ?_
      exact hE21_39 x3 x4 σ5
theorem m7_spareBy_L21_ok {κ : Kx} (hκ : Gd κ cX7_spareBy 4 RX7 (some .int) 6) {E21_39 : Int32 → Int32 → St → Option (Int32 × St)} (hE21_39 : ∀ (y1 : Int32) (y2 : Int32) (σ : St), Ab sy_vi κ 39 [none, sy_vi y1, sy_vi y2, none] [] σ (E21_39 y1 y2 σ)) {E21_64 : Int32 → St → Option (Int32 × St)} (hE21_64 : ∀ (y1 : Int32) (σ : St), Ab sy_vi κ 64 [sy_vr 61, sy_vi y1, none, none] [] σ (E21_64 y1 σ)) : ∀ (n : Nat) (x3 : Int32) (x4 : Int32) (σ : St), Ab sy_vi κ 21 [sy_vr 61, sy_vi x3, sy_vi x4, none] [] σ (m7_spareBy_L21  E21_39 E21_64 n x3 x4 σ) := by
  intro n
  induction n with
  | zero => intros; exact ab_none
  | succ n ih => exact fun x3 x4 σ => m7_spareBy_L21b_ok hκ   ih hE21_39 hE21_64 x3 x4 σ
def m7_spareBy_L78b (K78 : Int32 → Int32 → Int32 → St → Option (Int32 × St)) (E78_100 : Int32 → Int32 → Int32 → St → Option (Int32 × St)) (E78_125 : Int32 → Int32 → St → Option (Int32 × St)) (x15 : Int32) (x16 : Int32) (x17 : Int32) (σ : St) : Option (Int32 × St) := if (σ 61 12) ≤ x17 then (E78_125 x15 x16 σ) else (sy_bd (m7_isSpared ((1 <<< (x16 &&& 31)) ||| (1 <<< (x17 &&& 31))) σ) (fun r19 σ18 => if r19 = 0 then (K78 x15 x16 (x17 + 1) σ18) else (E78_100 x15 x16 x17 σ18)))
def m7_spareBy_L78 (E78_100 : Int32 → Int32 → Int32 → St → Option (Int32 × St)) (E78_125 : Int32 → Int32 → St → Option (Int32 × St)) : Nat → Int32 → Int32 → Int32 → St → Option (Int32 × St)
  | 0 => fun _ _ _ _ => none
  | n + 1 => m7_spareBy_L78b  (m7_spareBy_L78  E78_100 E78_125 n) E78_100 E78_125
set_option maxRecDepth 100000 in
set_option maxHeartbeats 4000000 in
theorem m7_spareBy_L78b_ok {κ : Kx} (hκ : Gd κ cX7_spareBy 4 RX7 (some .int) 6) {K78 : Int32 → Int32 → Int32 → St → Option (Int32 × St)} (hK78 : ∀ (x15 : Int32) (x16 : Int32) (x17 : Int32) (σ : St), Ab sy_vi κ 78 [sy_vr 61, sy_vi x15, sy_vi x16, sy_vi x17] [] σ (K78 x15 x16 x17 σ)) {E78_100 : Int32 → Int32 → Int32 → St → Option (Int32 × St)} (hE78_100 : ∀ (y1 : Int32) (y2 : Int32) (y3 : Int32) (σ : St), Ab sy_vi κ 100 [none, sy_vi y1, sy_vi y2, sy_vi y3] [] σ (E78_100 y1 y2 y3 σ)) {E78_125 : Int32 → Int32 → St → Option (Int32 × St)} (hE78_125 : ∀ (y1 : Int32) (y2 : Int32) (σ : St), Ab sy_vi κ 125 [sy_vr 61, sy_vi y1, sy_vi y2, none] [] σ (E78_125 y1 y2 σ)) (x15 : Int32) (x16 : Int32) (x17 : Int32) (σ : St) : Ab sy_vi κ 78 [sy_vr 61, sy_vi x15, sy_vi x16, sy_vi x17] [] σ (m7_spareBy_L78b  K78 E78_100 E78_125 x15 x16 x17 σ) := by
  unfold m7_spareBy_L78b
  refine ab_iload_n hκ dX7_spareBy_78 rfl ?_
  refine ab_aload_n hκ dX7_spareBy_79 rfl ?_
  refine ab_getf (v := .int (σ 61 12)) hκ (sy_o7 rfl) kf_RX7_155 rfl dX7_spareBy_80 rfl ?_
  refine ab_icmp_ge (tgt := 125) hκ dX7_spareBy_83 rfl ?_ ?_
  · refine ab_fg (lv' := [sy_vr 61, sy_vi x15, sy_vi x16, none]) [3] rfl ?_
    exact hE78_125 x15 x16 σ
  · refine ab_aload_n hκ dX7_spareBy_86 rfl ?_
    refine ab_iconst (v := 1) hκ dX7_spareBy_87 rfl ?_
    refine ab_iload_n hκ dX7_spareBy_88 rfl ?_
    refine ab_ishl hκ dX7_spareBy_89 ?_
    refine ab_iconst (v := 1) hκ dX7_spareBy_90 rfl ?_
    refine ab_iload_n hκ dX7_spareBy_91 rfl ?_
    refine ab_ishl hκ dX7_spareBy_92 ?_
    refine ab_ior hκ dX7_spareBy_93 ?_
    refine ab_cVi (vs := [.int ((1 <<< (x16 &&& 31)) ||| (1 <<< (x17 &&& 31)))]) (st := []) hκ dX7_spareBy_94 kl_RX7_243 ki_X7_isSpared kv_X7_isSpared (sy_o7 rfl) rfl rfl (m7_isSpared_ok ((1 <<< (x16 &&& 31)) ||| (1 <<< (x17 &&& 31))) σ) rfl (by decide) (Nat.le_of_ble_eq_true rfl) rfl (fun r19 σ18 => ?_)
    refine ab_if_eq (tgt := 119) hκ dX7_spareBy_97 rfl ?_ ?_
    · refine ab_iinc (v := (x17 + 1)) (lv' := [sy_vr 61, sy_vi x15, sy_vi x16, sy_vi (x17 + 1)]) hκ dX7_spareBy_119 rfl rfl (by decide) rfl ?_
      refine ab_goto (tgt := 78) hκ dX7_spareBy_122 rfl ?_
      exact hK78 x15 x16 (x17 + 1) σ18
    · refine ab_fg (lv' := [none, sy_vi x15, sy_vi x16, sy_vi x17]) [0] rfl ?_
      exact hE78_100 x15 x16 x17 σ18
theorem m7_spareBy_L78_ok {κ : Kx} (hκ : Gd κ cX7_spareBy 4 RX7 (some .int) 6) {E78_100 : Int32 → Int32 → Int32 → St → Option (Int32 × St)} (hE78_100 : ∀ (y1 : Int32) (y2 : Int32) (y3 : Int32) (σ : St), Ab sy_vi κ 100 [none, sy_vi y1, sy_vi y2, sy_vi y3] [] σ (E78_100 y1 y2 y3 σ)) {E78_125 : Int32 → Int32 → St → Option (Int32 × St)} (hE78_125 : ∀ (y1 : Int32) (y2 : Int32) (σ : St), Ab sy_vi κ 125 [sy_vr 61, sy_vi y1, sy_vi y2, none] [] σ (E78_125 y1 y2 σ)) : ∀ (n : Nat) (x15 : Int32) (x16 : Int32) (x17 : Int32) (σ : St), Ab sy_vi κ 78 [sy_vr 61, sy_vi x15, sy_vi x16, sy_vi x17] [] σ (m7_spareBy_L78  E78_100 E78_125 n x15 x16 x17 σ) := by
  intro n
  induction n with
  | zero => intros; exact ab_none
  | succ n ih => exact fun x15 x16 x17 σ => m7_spareBy_L78b_ok hκ   ih hE78_100 hE78_125 x15 x16 x17 σ
def m7_spareBy_L66b (K66 : Int32 → Int32 → St → Option (Int32 × St)) (E66_100 : Int32 → Int32 → Int32 → St → Option (Int32 × St)) (x12 : Int32) (x13 : Int32) (σ : St) : Option (Int32 × St) := if (σ 61 12) ≤ x13 then (some ((-1), σ)) else (sy_lt (x13 + 1) (fun v14 => m7_spareBy_L78 (fun y20 y21 y22 σ23 => E66_100 y20 y21 y22 σ23) (fun y24 y25 σ26 => K66 y24 (y25 + 1) σ26) sy_FU x12 x13 v14 σ))
def m7_spareBy_L66 (E66_100 : Int32 → Int32 → Int32 → St → Option (Int32 × St)) : Nat → Int32 → Int32 → St → Option (Int32 × St)
  | 0 => fun _ _ _ => none
  | n + 1 => m7_spareBy_L66b  (m7_spareBy_L66  E66_100 n) E66_100
set_option maxRecDepth 100000 in
set_option maxHeartbeats 4000000 in
theorem m7_spareBy_L66b_ok {κ : Kx} (hκ : Gd κ cX7_spareBy 4 RX7 (some .int) 6) {K66 : Int32 → Int32 → St → Option (Int32 × St)} (hK66 : ∀ (x12 : Int32) (x13 : Int32) (σ : St), Ab sy_vi κ 66 [sy_vr 61, sy_vi x12, sy_vi x13, none] [] σ (K66 x12 x13 σ)) {E66_100 : Int32 → Int32 → Int32 → St → Option (Int32 × St)} (hE66_100 : ∀ (y1 : Int32) (y2 : Int32) (y3 : Int32) (σ : St), Ab sy_vi κ 100 [none, sy_vi y1, sy_vi y2, sy_vi y3] [] σ (E66_100 y1 y2 y3 σ)) (x12 : Int32) (x13 : Int32) (σ : St) : Ab sy_vi κ 66 [sy_vr 61, sy_vi x12, sy_vi x13, none] [] σ (m7_spareBy_L66b  K66 E66_100 x12 x13 σ) := by
  unfold m7_spareBy_L66b
  refine ab_iload_n hκ dX7_spareBy_66 rfl ?_
  refine ab_aload_n hκ dX7_spareBy_67 rfl ?_
  refine ab_getf (v := .int (σ 61 12)) hκ (sy_o7 rfl) kf_RX7_155 rfl dX7_spareBy_68 rfl ?_
  refine ab_icmp_ge (tgt := 131) hκ dX7_spareBy_71 rfl ?_ ?_
  · refine ab_iconst (v := (-1)) hκ dX7_spareBy_131 rfl ?_
    exact ab_iret hκ dX7_spareBy_132
  · refine ab_iload_n hκ dX7_spareBy_74 rfl ?_
    refine ab_iconst (v := 1) hκ dX7_spareBy_75 rfl ?_
    refine ab_iadd hκ dX7_spareBy_76 ?_
    refine ab_lti (fun v14 => ?_)
    refine ab_istore_n (lv' := [sy_vr 61, sy_vi x12, sy_vi x13, sy_vi v14]) hκ dX7_spareBy_77 rfl (by decide) rfl ?_
    refine m7_spareBy_L78_ok hκ ?_ ?_ _ _ _ _ _
    · intro y20 y21 y22 σ23
      exact hE66_100 y20 y21 y22 σ23
    · intro y24 y25 σ26
      refine ab_iinc (v := (y25 + 1)) (lv' := [sy_vr 61, sy_vi y24, sy_vi (y25 + 1), none]) hκ dX7_spareBy_125 rfl rfl (by decide) rfl ?_
      refine ab_goto (tgt := 66) hκ dX7_spareBy_128 rfl ?_
      exact hK66 y24 (y25 + 1) σ26
theorem m7_spareBy_L66_ok {κ : Kx} (hκ : Gd κ cX7_spareBy 4 RX7 (some .int) 6) {E66_100 : Int32 → Int32 → Int32 → St → Option (Int32 × St)} (hE66_100 : ∀ (y1 : Int32) (y2 : Int32) (y3 : Int32) (σ : St), Ab sy_vi κ 100 [none, sy_vi y1, sy_vi y2, sy_vi y3] [] σ (E66_100 y1 y2 y3 σ)) : ∀ (n : Nat) (x12 : Int32) (x13 : Int32) (σ : St), Ab sy_vi κ 66 [sy_vr 61, sy_vi x12, sy_vi x13, none] [] σ (m7_spareBy_L66  E66_100 n x12 x13 σ) := by
  intro n
  induction n with
  | zero => intros; exact ab_none
  | succ n ih => exact fun x12 x13 σ => m7_spareBy_L66b_ok hκ   ih hE66_100 x12 x13 σ
def m7_spareBy (a1 : Int32) (σ : St) : Option (Int32 × St) := sy_bd (m7_isSpared 0 σ) (fun r2 σ1 => if r2 = 0 then (m7_spareBy_L21 (fun y7 y8 σ9 => if y7 = (-1) then (some (1, σ9)) else (if y7 = 0 then (some (y8, σ9)) else (some ((-1), σ9)))) (fun y10 σ11 => m7_spareBy_L66 (fun y27 y28 y29 σ30 => if y27 = (-1) then (some (2, σ30)) else (if y27 = 0 then (some (y28, σ30)) else (some (y29, σ30)))) sy_FU y10 0 σ11) sy_FU a1 0 σ1) else (if a1 = (-1) then (some (0, σ1)) else (some ((-1), σ1))))
set_option maxRecDepth 100000 in
set_option maxHeartbeats 4000000 in
theorem m7_spareBy_ok (a1 : Int32) (σ : St) : Cok sy_vi yX7_spareBy cX7_spareBy 4 (some .int) 6 [.ref 61, .int a1] σ (m7_spareBy a1 σ) := by
  refine cok_of (own := RX7) (by decide) rfl (fun ad => Nat.le_of_ble_eq_true rfl) (fun κ hκ => ?_)
  show Ab sy_vi κ 0 [sy_vr 61, sy_vi a1, none, none] [] σ (m7_spareBy a1 σ)
  unfold m7_spareBy
  refine ab_aload_n hκ dX7_spareBy_0 rfl ?_
  refine ab_iconst (v := 0) hκ dX7_spareBy_1 rfl ?_
  refine ab_cVi (vs := [.int 0]) (st := []) hκ dX7_spareBy_2 kl_RX7_243 ki_X7_isSpared kv_X7_isSpared (sy_o7 rfl) rfl rfl (m7_isSpared_ok 0 σ) rfl (by decide) (Nat.le_of_ble_eq_true rfl) rfl (fun r2 σ1 => ?_)
  refine ab_if_eq (tgt := 19) hκ dX7_spareBy_5 rfl ?_ ?_
  · refine ab_iconst (v := 0) hκ dX7_spareBy_19 rfl ?_
    refine ab_istore_n (lv' := [sy_vr 61, sy_vi a1, sy_vi 0, none]) hκ dX7_spareBy_20 rfl (by decide) rfl ?_
    refine m7_spareBy_L21_ok hκ ?_ ?_ _ _ _ _
    · intro y7 y8 σ9
      refine ab_iload_n hκ dX7_spareBy_39 rfl ?_
      refine ab_iconst (v := (-1)) hκ dX7_spareBy_40 rfl ?_
      refine ab_icmp_ne (tgt := 48) hκ dX7_spareBy_41 rfl ?_ ?_
      · refine ab_iload_n hκ dX7_spareBy_48 rfl ?_
        refine ab_if_ne (tgt := 56) hκ dX7_spareBy_49 rfl ?_ ?_
        · refine ab_iconst (v := (-1)) hκ dX7_spareBy_56 rfl ?_
          exact ab_iret hκ dX7_spareBy_57
        · refine ab_iload_n hκ dX7_spareBy_52 rfl ?_
          refine ab_goto (tgt := 57) hκ dX7_spareBy_53 rfl ?_
          exact ab_iret hκ dX7_spareBy_57
      · refine ab_iconst (v := 1) hκ dX7_spareBy_44 rfl ?_
        refine ab_goto (tgt := 57) hκ dX7_spareBy_45 rfl ?_
        exact ab_iret hκ dX7_spareBy_57
    · intro y10 σ11
      refine ab_iconst (v := 0) hκ dX7_spareBy_64 rfl ?_
      refine ab_istore_n (lv' := [sy_vr 61, sy_vi y10, sy_vi 0, none]) hκ dX7_spareBy_65 rfl (by decide) rfl ?_
      refine m7_spareBy_L66_ok hκ ?_ _ _ _ _
      · intro y27 y28 y29 σ30
        refine ab_iload_n hκ dX7_spareBy_100 rfl ?_
        refine ab_iconst (v := (-1)) hκ dX7_spareBy_101 rfl ?_
        refine ab_icmp_ne (tgt := 109) hκ dX7_spareBy_102 rfl ?_ ?_
        · refine ab_iload_n hκ dX7_spareBy_109 rfl ?_
          refine ab_if_ne (tgt := 117) hκ dX7_spareBy_110 rfl ?_ ?_
          · refine ab_iload_n hκ dX7_spareBy_117 rfl ?_
            exact ab_iret hκ dX7_spareBy_118
          · refine ab_iload_n hκ dX7_spareBy_113 rfl ?_
            refine ab_goto (tgt := 118) hκ dX7_spareBy_114 rfl ?_
            exact ab_iret hκ dX7_spareBy_118
        · refine ab_iconst (v := 2) hκ dX7_spareBy_105 rfl ?_
          refine ab_goto (tgt := 118) hκ dX7_spareBy_106 rfl ?_
          exact ab_iret hκ dX7_spareBy_118
  · refine ab_iload_n hκ dX7_spareBy_8 rfl ?_
    refine ab_iconst (v := (-1)) hκ dX7_spareBy_9 rfl ?_
    refine ab_icmp_ne (tgt := 17) hκ dX7_spareBy_10 rfl ?_ ?_
    · refine ab_iconst (v := (-1)) hκ dX7_spareBy_17 rfl ?_
      exact ab_iret hκ dX7_spareBy_18
    · refine ab_iconst (v := 0) hκ dX7_spareBy_13 rfl ?_
      refine ab_goto (tgt := 18) hκ dX7_spareBy_14 rfl ?_
      exact ab_iret hκ dX7_spareBy_18
-- BreathBandModel.spare(I)I, depth 7
def m7_spare (a1 : Int32) (σ : St) : Option (Int32 × St) := sy_bd (m7_find σ) (fun _ σ1 => sy_bd (m7_in (Int32.toInt64 a1) (-1) 1 σ1) (fun r3 σ2 => if r3 = 0 then (some ((-2), σ2)) else (sy_bd (m7_spareBy a1 σ2) (fun r5 σ4 => some (r5, σ4)))))
set_option maxRecDepth 100000 in
set_option maxHeartbeats 4000000 in
theorem m7_spare_ok (a1 : Int32) (σ : St) : Cok sy_vi yX7_spare cX7_spare 2 (some .int) 7 [.ref 61, .int a1] σ (m7_spare a1 σ) := by
  refine cok_of (own := RX7) (by decide) rfl (fun ad => Nat.le_of_ble_eq_true rfl) (fun κ hκ => ?_)
  show Ab sy_vi κ 0 [sy_vr 61, sy_vi a1] [] σ (m7_spare a1 σ)
  unfold m7_spare
  refine ab_aload_n hκ dX7_spare_0 rfl ?_
  refine ab_cVv (vs := []) (st := []) hκ dX7_spare_1 kl_RX7_204 ki_X7_find kv_X7_find (sy_o7 rfl) rfl rfl (m7_find_ok σ) rfl (by decide) (Nat.le_of_ble_eq_true rfl) rfl (fun _ σ1 => ?_)
  refine ab_iload_n hκ dX7_spare_4 rfl ?_
  refine ab_i2l hκ dX7_spare_5 ?_
  refine ab_ldc2 hκ dX7_spare_6 kn_RX7_246 ?_
  refine ab_lconst (v := 1) hκ dX7_spare_9 rfl ?_
  refine ab_cSi (vs := [.long (Int32.toInt64 a1), .long (-1), .long 1]) (st := []) hκ dX7_spare_10 kl_RX7_76 ki_X7_in kv_X7_in (m7_in_ok (Int32.toInt64 a1) (-1) 1 σ1) rfl (by decide) (Nat.le_of_ble_eq_true rfl) rfl (fun r3 σ2 => ?_)
  refine ab_if_eq (tgt := 24) hκ dX7_spare_13 rfl ?_ ?_
  · refine ab_bipush (v := (-2)) hκ dX7_spare_24 rfl ?_
    exact ab_iret hκ dX7_spare_26
  · refine ab_aload_n hκ dX7_spare_16 rfl ?_
    refine ab_iload_n hκ dX7_spare_17 rfl ?_
    refine ab_cVi (vs := [.int a1]) (st := []) hκ dX7_spare_18 kl_RX7_248 ki_X7_spareBy kv_X7_spareBy (sy_o7 rfl) rfl rfl (m7_spareBy_ok a1 σ2) rfl (by decide) (Nat.le_of_ble_eq_true rfl) rfl (fun r5 σ4 => ?_)
    refine ab_goto (tgt := 26) hκ dX7_spare_21 rfl ?_
    exact ab_iret hκ dX7_spare_26
-- BreathBandModel.hear(II)I, depth 1
def m7_hear (a1 : Int32) (a2 : Int32) (σ : St) : Option (Int32 × St) := sy_bd (m7_in (Int32.toInt64 a1) 0 15 σ) (fun r2 σ1 => if r2 = 0 then (some ((-2), σ1)) else (sy_bd (m7_in (Int32.toInt64 a2) 0 2 σ1) (fun r4 σ3 => if r4 = 0 then (some ((-2), σ3)) else (if (σ3 61 28) = 8 then (some ((-4), σ3)) else (sy_gd (2 * (σ3 61 28)) 16 (sy_lt (sy_sf σ3 79 (sy_ix (2 * (σ3 61 28))) a1) (fun σ5 => sy_gd ((2 * (σ5 61 28)) + 1) 16 (sy_lt (sy_sf σ5 79 (sy_ix ((2 * (σ5 61 28)) + 1)) a2) (fun σ6 => sy_lt (sy_sf σ6 61 28 ((σ6 61 28) + 1)) (fun σ7 => some ((σ7 61 28), σ7)))))))))))
set_option maxRecDepth 100000 in
set_option maxHeartbeats 4000000 in
theorem m7_hear_ok (a1 : Int32) (a2 : Int32) (σ : St) : Cok sy_vi yX7_hear cX7_hear 3 (some .int) 1 [.ref 61, .int a1, .int a2] σ (m7_hear a1 a2 σ) := by
  refine cok_of (own := RX7) (by decide) rfl (fun ad => Nat.le_of_ble_eq_true rfl) (fun κ hκ => ?_)
  show Ab sy_vi κ 0 [sy_vr 61, sy_vi a1, sy_vi a2] [] σ (m7_hear a1 a2 σ)
  unfold m7_hear
  refine ab_iload_n hκ dX7_hear_0 rfl ?_
  refine ab_i2l hκ dX7_hear_1 ?_
  refine ab_lconst (v := 0) hκ dX7_hear_2 rfl ?_
  refine ab_ldc2 hκ dX7_hear_3 kn_RX7_145 ?_
  refine ab_cSi (vs := [.long (Int32.toInt64 a1), .long 0, .long 15]) (st := []) hκ dX7_hear_6 kl_RX7_76 ki_X7_in kv_X7_in (m7_in_ok (Int32.toInt64 a1) 0 15 σ) rfl (by decide) (Nat.le_of_ble_eq_true rfl) rfl (fun r2 σ1 => ?_)
  refine ab_if_eq (tgt := 24) hκ dX7_hear_9 rfl ?_ ?_
  · refine ab_bipush (v := (-2)) hκ dX7_hear_24 rfl ?_
    exact ab_iret hκ dX7_hear_26
  · refine ab_iload_n hκ dX7_hear_12 rfl ?_
    refine ab_i2l hκ dX7_hear_13 ?_
    refine ab_lconst (v := 0) hκ dX7_hear_14 rfl ?_
    refine ab_ldc2 hκ dX7_hear_15 kn_RX7_89 ?_
    refine ab_cSi (vs := [.long (Int32.toInt64 a2), .long 0, .long 2]) (st := []) hκ dX7_hear_18 kl_RX7_76 ki_X7_in kv_X7_in (m7_in_ok (Int32.toInt64 a2) 0 2 σ1) rfl (by decide) (Nat.le_of_ble_eq_true rfl) rfl (fun r4 σ3 => ?_)
    refine ab_if_ne (tgt := 27) hκ dX7_hear_21 rfl ?_ ?_
    · refine ab_aload_n hκ dX7_hear_27 rfl ?_
      refine ab_getf (v := .int (σ3 61 28)) hκ (sy_o7 rfl) kf_RX7_251 rfl dX7_hear_28 rfl ?_
      refine ab_bipush (v := 8) hκ dX7_hear_31 rfl ?_
      refine ab_icmp_ne (tgt := 39) hκ dX7_hear_33 rfl ?_ ?_
      · refine ab_aload_n hκ dX7_hear_39 rfl ?_
        refine ab_getf (v := .ref 79) hκ (sy_o7 rfl) kf_RX7_61 rfl dX7_hear_40 rfl ?_
        refine ab_iconst (v := 2) hκ dX7_hear_43 rfl ?_
        refine ab_aload_n hκ dX7_hear_44 rfl ?_
        refine ab_getf (v := .int (σ3 61 28)) hκ (sy_o7 rfl) kf_RX7_251 rfl dX7_hear_45 rfl ?_
        refine ab_imul hκ dX7_hear_48 ?_
        refine ab_iload_n hκ dX7_hear_49 rfl ?_
        refine ab_iast hκ rfl dX7_hear_50 ?_
        refine ab_lts (fun σ5 => ?_)
        refine ab_aload_n hκ dX7_hear_51 rfl ?_
        refine ab_getf (v := .ref 79) hκ (sy_o7 rfl) kf_RX7_61 rfl dX7_hear_52 rfl ?_
        refine ab_iconst (v := 2) hκ dX7_hear_55 rfl ?_
        refine ab_aload_n hκ dX7_hear_56 rfl ?_
        refine ab_getf (v := .int (σ5 61 28)) hκ (sy_o7 rfl) kf_RX7_251 rfl dX7_hear_57 rfl ?_
        refine ab_imul hκ dX7_hear_60 ?_
        refine ab_iconst (v := 1) hκ dX7_hear_61 rfl ?_
        refine ab_iadd hκ dX7_hear_62 ?_
        refine ab_iload_n hκ dX7_hear_63 rfl ?_
        refine ab_iast hκ rfl dX7_hear_64 ?_
        refine ab_lts (fun σ6 => ?_)
        refine ab_aload_n hκ dX7_hear_65 rfl ?_
        refine ab_dupa hκ dX7_hear_66 ?_
        refine ab_getf (v := .int (σ6 61 28)) hκ (sy_o7 rfl) kf_RX7_251 rfl dX7_hear_67 rfl ?_
        refine ab_iconst (v := 1) hκ dX7_hear_70 rfl ?_
        refine ab_iadd hκ dX7_hear_71 ?_
        refine ab_putf hκ (sy_o7 rfl) kp_RX7_251 rfl dX7_hear_72 ?_
        refine ab_lts (fun σ7 => ?_)
        refine ab_aload_n hκ dX7_hear_75 rfl ?_
        refine ab_getf (v := .int (σ7 61 28)) hκ (sy_o7 rfl) kf_RX7_251 rfl dX7_hear_76 rfl ?_
        exact ab_iret hκ dX7_hear_79
      · refine ab_bipush (v := (-4)) hκ dX7_hear_36 rfl ?_
        exact ab_iret hκ dX7_hear_38
    · refine ab_bipush (v := (-2)) hκ dX7_hear_24 rfl ?_
      exact ab_iret hκ dX7_hear_26
-- BreathBandModel.forget()I, depth 0
def m7_forget (σ : St) : Option (Int32 × St) := sy_lt (σ 61 28) (fun v1 => sy_lt (sy_sf σ 61 28 0) (fun σ2 => some (v1, σ2)))
set_option maxRecDepth 100000 in
set_option maxHeartbeats 4000000 in
theorem m7_forget_ok (σ : St) : Cok sy_vi yX7_forget cX7_forget 2 (some .int) 0 [.ref 61] σ (m7_forget σ) := by
  refine cok_of (own := RX7) (by decide) rfl (fun ad => Nat.le_of_ble_eq_true rfl) (fun κ hκ => ?_)
  show Ab sy_vi κ 0 [sy_vr 61, none] [] σ (m7_forget σ)
  unfold m7_forget
  refine ab_aload_n hκ dX7_forget_0 rfl ?_
  refine ab_getf (v := .int (σ 61 28)) hκ (sy_o7 rfl) kf_RX7_251 rfl dX7_forget_1 rfl ?_
  refine ab_lti (fun v1 => ?_)
  refine ab_istore_n (lv' := [sy_vr 61, sy_vi v1]) hκ dX7_forget_4 rfl (by decide) rfl ?_
  refine ab_aload_n hκ dX7_forget_5 rfl ?_
  refine ab_iconst (v := 0) hκ dX7_forget_6 rfl ?_
  refine ab_putf hκ (sy_o7 rfl) kp_RX7_251 rfl dX7_forget_7 ?_
  refine ab_lts (fun σ2 => ?_)
  refine ab_iload_n hκ dX7_forget_10 rfl ?_
  exact ab_iret hκ dX7_forget_11
-- BreathBandModel.isHeard()Z, depth 5
def m7_isHeard_L8b (K8 : Int32 → Int32 → St → Option (Int32 × St)) (E8_73 : Int32 → St → Option (Int32 × St)) (x2 : Int32) (x3 : Int32) (σ : St) : Option (Int32 × St) := if (σ 61 28) ≤ x3 then (E8_73 x2 σ) else (if x2 = 0 then (K8 0 (x3 + 1) σ) else (sy_gd (2 * x3) 16 (sy_bd (m7_isNote (σ 79 (sy_ix (2 * x3))) σ) (fun r5 σ4 => if r5 = 0 then (K8 0 (x3 + 1) σ4) else (sy_gd (2 * x3) 16 (sy_gd (σ4 79 (sy_ix (2 * x3))) 16 (sy_gd ((2 * x3) + 1) 16 (if (σ4 74 (sy_ix (σ4 79 (sy_ix (2 * x3))))) = (σ4 79 (sy_ix ((2 * x3) + 1))) then (K8 1 (x3 + 1) σ4) else (K8 0 (x3 + 1) σ4)))))))))
def m7_isHeard_L8 (E8_73 : Int32 → St → Option (Int32 × St)) : Nat → Int32 → Int32 → St → Option (Int32 × St)
  | 0 => fun _ _ _ => none
  | n + 1 => m7_isHeard_L8b  (m7_isHeard_L8  E8_73 n) E8_73
set_option maxRecDepth 100000 in
set_option maxHeartbeats 4000000 in
theorem m7_isHeard_L8b_ok {κ : Kx} (hκ : Gd κ cX7_isHeard 3 RX7 (some .boolean) 5) {K8 : Int32 → Int32 → St → Option (Int32 × St)} (hK8 : ∀ (x2 : Int32) (x3 : Int32) (σ : St), Ab sy_vi κ 8 [sy_vr 61, sy_vi x2, sy_vi x3] [] σ (K8 x2 x3 σ)) {E8_73 : Int32 → St → Option (Int32 × St)} (hE8_73 : ∀ (y1 : Int32) (σ : St), Ab sy_vi κ 73 [none, sy_vi y1, none] [] σ (E8_73 y1 σ)) (x2 : Int32) (x3 : Int32) (σ : St) : Ab sy_vi κ 8 [sy_vr 61, sy_vi x2, sy_vi x3] [] σ (m7_isHeard_L8b  K8 E8_73 x2 x3 σ) := by
  unfold m7_isHeard_L8b
  refine ab_iload_n hκ dX7_isHeard_8 rfl ?_
  refine ab_aload_n hκ dX7_isHeard_9 rfl ?_
  refine ab_getf (v := .int (σ 61 28)) hκ (sy_o7 rfl) kf_RX7_251 rfl dX7_isHeard_10 rfl ?_
  refine ab_icmp_ge (tgt := 73) hκ dX7_isHeard_13 rfl ?_ ?_
  · refine ab_fg (lv' := [none, sy_vi x2, none]) [0, 2] rfl ?_
    exact hE8_73 x2 σ
  · refine ab_iload_n hκ dX7_isHeard_16 rfl ?_
    refine ab_if_eq (tgt := 65) hκ dX7_isHeard_17 rfl ?_ ?_
    · refine ab_iconst (v := 0) hκ dX7_isHeard_65 rfl ?_
      refine ab_istore_n (lv' := [sy_vr 61, sy_vi 0, sy_vi x3]) hκ dX7_isHeard_66 rfl (by decide) rfl ?_
      refine ab_iinc (v := (x3 + 1)) (lv' := [sy_vr 61, sy_vi 0, sy_vi (x3 + 1)]) hκ dX7_isHeard_67 rfl rfl (by decide) rfl ?_
      refine ab_goto (tgt := 8) hκ dX7_isHeard_70 rfl ?_
      exact hK8 0 (x3 + 1) σ
    · refine ab_aload_n hκ dX7_isHeard_20 rfl ?_
      refine ab_aload_n hκ dX7_isHeard_21 rfl ?_
      refine ab_getf (v := .ref 79) hκ (sy_o7 rfl) kf_RX7_61 rfl dX7_isHeard_22 rfl ?_
      refine ab_iconst (v := 2) hκ dX7_isHeard_25 rfl ?_
      refine ab_iload_n hκ dX7_isHeard_26 rfl ?_
      refine ab_imul hκ dX7_isHeard_27 ?_
      refine ab_iald hκ rfl dX7_isHeard_28 ?_
      refine ab_cVi (vs := [.int (σ 79 (sy_ix (2 * x3)))]) (st := []) hκ dX7_isHeard_29 kl_RX7_210 ki_X7_isNote kv_X7_isNote (sy_o7 rfl) rfl rfl (m7_isNote_ok (σ 79 (sy_ix (2 * x3))) σ) rfl (by decide) (Nat.le_of_ble_eq_true rfl) rfl (fun r5 σ4 => ?_)
      refine ab_if_eq (tgt := 65) hκ dX7_isHeard_32 rfl ?_ ?_
      · refine ab_iconst (v := 0) hκ dX7_isHeard_65 rfl ?_
        refine ab_istore_n (lv' := [sy_vr 61, sy_vi 0, sy_vi x3]) hκ dX7_isHeard_66 rfl (by decide) rfl ?_
        refine ab_iinc (v := (x3 + 1)) (lv' := [sy_vr 61, sy_vi 0, sy_vi (x3 + 1)]) hκ dX7_isHeard_67 rfl rfl (by decide) rfl ?_
        refine ab_goto (tgt := 8) hκ dX7_isHeard_70 rfl ?_
        exact hK8 0 (x3 + 1) σ4
      · refine ab_aload_n hκ dX7_isHeard_35 rfl ?_
        refine ab_getf (v := .ref 74) hκ (sy_o7 rfl) kf_RX7_46 rfl dX7_isHeard_36 rfl ?_
        refine ab_aload_n hκ dX7_isHeard_39 rfl ?_
        refine ab_getf (v := .ref 79) hκ (sy_o7 rfl) kf_RX7_61 rfl dX7_isHeard_40 rfl ?_
        refine ab_iconst (v := 2) hκ dX7_isHeard_43 rfl ?_
        refine ab_iload_n hκ dX7_isHeard_44 rfl ?_
        refine ab_imul hκ dX7_isHeard_45 ?_
        refine ab_iald hκ rfl dX7_isHeard_46 ?_
        refine ab_iald hκ rfl dX7_isHeard_47 ?_
        refine ab_aload_n hκ dX7_isHeard_48 rfl ?_
        refine ab_getf (v := .ref 79) hκ (sy_o7 rfl) kf_RX7_61 rfl dX7_isHeard_49 rfl ?_
        refine ab_iconst (v := 2) hκ dX7_isHeard_52 rfl ?_
        refine ab_iload_n hκ dX7_isHeard_53 rfl ?_
        refine ab_imul hκ dX7_isHeard_54 ?_
        refine ab_iconst (v := 1) hκ dX7_isHeard_55 rfl ?_
        refine ab_iadd hκ dX7_isHeard_56 ?_
        refine ab_iald hκ rfl dX7_isHeard_57 ?_
        refine ab_icmp_ne (tgt := 65) hκ dX7_isHeard_58 rfl ?_ ?_
        · refine ab_iconst (v := 0) hκ dX7_isHeard_65 rfl ?_
          refine ab_istore_n (lv' := [sy_vr 61, sy_vi 0, sy_vi x3]) hκ dX7_isHeard_66 rfl (by decide) rfl ?_
          refine ab_iinc (v := (x3 + 1)) (lv' := [sy_vr 61, sy_vi 0, sy_vi (x3 + 1)]) hκ dX7_isHeard_67 rfl rfl (by decide) rfl ?_
          refine ab_goto (tgt := 8) hκ dX7_isHeard_70 rfl ?_
          exact hK8 0 (x3 + 1) σ4
        · refine ab_iconst (v := 1) hκ dX7_isHeard_61 rfl ?_
          refine ab_goto (tgt := 66) hκ dX7_isHeard_62 rfl ?_
          refine ab_istore_n (lv' := [sy_vr 61, sy_vi 1, sy_vi x3]) hκ dX7_isHeard_66 rfl (by decide) rfl ?_
          refine ab_iinc (v := (x3 + 1)) (lv' := [sy_vr 61, sy_vi 1, sy_vi (x3 + 1)]) hκ dX7_isHeard_67 rfl rfl (by decide) rfl ?_
          refine ab_goto (tgt := 8) hκ dX7_isHeard_70 rfl ?_
          exact hK8 1 (x3 + 1) σ4
theorem m7_isHeard_L8_ok {κ : Kx} (hκ : Gd κ cX7_isHeard 3 RX7 (some .boolean) 5) {E8_73 : Int32 → St → Option (Int32 × St)} (hE8_73 : ∀ (y1 : Int32) (σ : St), Ab sy_vi κ 73 [none, sy_vi y1, none] [] σ (E8_73 y1 σ)) : ∀ (n : Nat) (x2 : Int32) (x3 : Int32) (σ : St), Ab sy_vi κ 8 [sy_vr 61, sy_vi x2, sy_vi x3] [] σ (m7_isHeard_L8  E8_73 n x2 x3 σ) := by
  intro n
  induction n with
  | zero => intros; exact ab_none
  | succ n ih => exact fun x2 x3 σ => m7_isHeard_L8b_ok hκ   ih hE8_73 x2 x3 σ
def m7_isHeard (σ : St) : Option (Int32 × St) := sy_bd (m7_lives σ) (fun _ σ1 => m7_isHeard_L8 (fun y6 σ7 => sy_zg y6 (some (y6, σ7))) sy_FU 1 0 σ1)
set_option maxRecDepth 100000 in
set_option maxHeartbeats 4000000 in
theorem m7_isHeard_ok (σ : St) : Cok sy_vi yX7_isHeard cX7_isHeard 3 (some .boolean) 5 [.ref 61] σ (m7_isHeard σ) := by
  refine cok_of (own := RX7) (by decide) rfl (fun ad => Nat.le_of_ble_eq_true rfl) (fun κ hκ => ?_)
  show Ab sy_vi κ 0 [sy_vr 61, none, none] [] σ (m7_isHeard σ)
  unfold m7_isHeard
  refine ab_aload_n hκ dX7_isHeard_0 rfl ?_
  refine ab_cVv (vs := []) (st := []) hκ dX7_isHeard_1 kl_RX7_201 ki_X7_lives kv_X7_lives (sy_o7 rfl) rfl rfl (m7_lives_ok σ) rfl (by decide) (Nat.le_of_ble_eq_true rfl) rfl (fun _ σ1 => ?_)
  refine ab_iconst (v := 1) hκ dX7_isHeard_4 rfl ?_
  refine ab_istore_n (lv' := [sy_vr 61, sy_vi 1, none]) hκ dX7_isHeard_5 rfl (by decide) rfl ?_
  refine ab_iconst (v := 0) hκ dX7_isHeard_6 rfl ?_
  refine ab_istore_n (lv' := [sy_vr 61, sy_vi 1, sy_vi 0]) hκ dX7_isHeard_7 rfl (by decide) rfl ?_
  refine m7_isHeard_L8_ok hκ ?_ _ _ _ _
  · intro y6 σ7
    refine ab_iload_n hκ dX7_isHeard_73 rfl ?_
    exact ab_zret hκ dX7_isHeard_74
-- BreathBandModel.neverNow()I, depth 6
def m7_neverNow_L4b (K4 : Int32 → Int32 → St → Option (Int32 × St)) (E4_42 : Int32 → St → Option (Int32 × St)) (x1 : Int32) (x2 : Int32) (σ : St) : Option (Int32 × St) := if (σ 61 12) ≤ x2 then (E4_42 x1 σ) else (sy_lt (sy_sf σ 61 14 (1 <<< (x2 &&& 31))) (fun σ3 => sy_bd (m7_isHeard σ3) (fun r5 σ4 => if r5 = 0 then (sy_lt (x1 ||| 0) (fun v6 => K4 v6 (x2 + 1) σ4)) else (sy_lt (x1 ||| (1 <<< (x2 &&& 31))) (fun v7 => K4 v7 (x2 + 1) σ4)))))
def m7_neverNow_L4 (E4_42 : Int32 → St → Option (Int32 × St)) : Nat → Int32 → Int32 → St → Option (Int32 × St)
  | 0 => fun _ _ _ => none
  | n + 1 => m7_neverNow_L4b  (m7_neverNow_L4  E4_42 n) E4_42
set_option maxRecDepth 100000 in
set_option maxHeartbeats 4000000 in
theorem m7_neverNow_L4b_ok {κ : Kx} (hκ : Gd κ cX7_neverNow 3 RX7 (some .int) 6) {K4 : Int32 → Int32 → St → Option (Int32 × St)} (hK4 : ∀ (x1 : Int32) (x2 : Int32) (σ : St), Ab sy_vi κ 4 [sy_vr 61, sy_vi x1, sy_vi x2] [] σ (K4 x1 x2 σ)) {E4_42 : Int32 → St → Option (Int32 × St)} (hE4_42 : ∀ (y1 : Int32) (σ : St), Ab sy_vi κ 42 [sy_vr 61, sy_vi y1, none] [] σ (E4_42 y1 σ)) (x1 : Int32) (x2 : Int32) (σ : St) : Ab sy_vi κ 4 [sy_vr 61, sy_vi x1, sy_vi x2] [] σ (m7_neverNow_L4b  K4 E4_42 x1 x2 σ) := by
  unfold m7_neverNow_L4b
  refine ab_iload_n hκ dX7_neverNow_4 rfl ?_
  refine ab_aload_n hκ dX7_neverNow_5 rfl ?_
  refine ab_getf (v := .int (σ 61 12)) hκ (sy_o7 rfl) kf_RX7_155 rfl dX7_neverNow_6 rfl ?_
  refine ab_icmp_ge (tgt := 42) hκ dX7_neverNow_9 rfl ?_ ?_
  · refine ab_fg (lv' := [sy_vr 61, sy_vi x1, none]) [2] rfl ?_
    exact hE4_42 x1 σ
  · refine ab_aload_n hκ dX7_neverNow_12 rfl ?_
    refine ab_iconst (v := 1) hκ dX7_neverNow_13 rfl ?_
    refine ab_iload_n hκ dX7_neverNow_14 rfl ?_
    refine ab_ishl hκ dX7_neverNow_15 ?_
    refine ab_putf hκ (sy_o7 rfl) kp_RX7_160 rfl dX7_neverNow_16 ?_
    refine ab_lts (fun σ3 => ?_)
    refine ab_iload_n hκ dX7_neverNow_19 rfl ?_
    refine ab_aload_n hκ dX7_neverNow_20 rfl ?_
    refine ab_cVi (vs := []) (st := [.int x1]) hκ dX7_neverNow_21 kl_RX7_254 ki_X7_isHeard kv_X7_isHeard (sy_o7 rfl) rfl rfl (m7_isHeard_ok σ3) rfl (by decide) (Nat.le_of_ble_eq_true rfl) rfl (fun r5 σ4 => ?_)
    refine ab_if_eq (tgt := 33) hκ dX7_neverNow_24 rfl ?_ ?_
    · refine ab_iconst (v := 0) hκ dX7_neverNow_33 rfl ?_
      refine ab_ior hκ dX7_neverNow_34 ?_
      refine ab_lti (fun v6 => ?_)
      refine ab_istore_n (lv' := [sy_vr 61, sy_vi v6, sy_vi x2]) hκ dX7_neverNow_35 rfl (by decide) rfl ?_
      refine ab_iinc (v := (x2 + 1)) (lv' := [sy_vr 61, sy_vi v6, sy_vi (x2 + 1)]) hκ dX7_neverNow_36 rfl rfl (by decide) rfl ?_
      refine ab_goto (tgt := 4) hκ dX7_neverNow_39 rfl ?_
      exact hK4 v6 (x2 + 1) σ4
    · refine ab_iconst (v := 1) hκ dX7_neverNow_27 rfl ?_
      refine ab_iload_n hκ dX7_neverNow_28 rfl ?_
      refine ab_ishl hκ dX7_neverNow_29 ?_
      refine ab_goto (tgt := 34) hκ dX7_neverNow_30 rfl ?_
      refine ab_ior hκ dX7_neverNow_34 ?_
      refine ab_lti (fun v7 => ?_)
      refine ab_istore_n (lv' := [sy_vr 61, sy_vi v7, sy_vi x2]) hκ dX7_neverNow_35 rfl (by decide) rfl ?_
      refine ab_iinc (v := (x2 + 1)) (lv' := [sy_vr 61, sy_vi v7, sy_vi (x2 + 1)]) hκ dX7_neverNow_36 rfl rfl (by decide) rfl ?_
      refine ab_goto (tgt := 4) hκ dX7_neverNow_39 rfl ?_
      exact hK4 v7 (x2 + 1) σ4
theorem m7_neverNow_L4_ok {κ : Kx} (hκ : Gd κ cX7_neverNow 3 RX7 (some .int) 6) {E4_42 : Int32 → St → Option (Int32 × St)} (hE4_42 : ∀ (y1 : Int32) (σ : St), Ab sy_vi κ 42 [sy_vr 61, sy_vi y1, none] [] σ (E4_42 y1 σ)) : ∀ (n : Nat) (x1 : Int32) (x2 : Int32) (σ : St), Ab sy_vi κ 4 [sy_vr 61, sy_vi x1, sy_vi x2] [] σ (m7_neverNow_L4  E4_42 n x1 x2 σ) := by
  intro n
  induction n with
  | zero => intros; exact ab_none
  | succ n ih => exact fun x1 x2 σ => m7_neverNow_L4b_ok hκ   ih hE4_42 x1 x2 σ
def m7_neverNow (σ : St) : Option (Int32 × St) := m7_neverNow_L4 (fun y8 σ9 => sy_lt (sy_sf σ9 61 14 0) (fun σ10 => some (y8, σ10))) sy_FU 0 0 σ
set_option maxRecDepth 100000 in
set_option maxHeartbeats 4000000 in
theorem m7_neverNow_ok (σ : St) : Cok sy_vi yX7_neverNow cX7_neverNow 3 (some .int) 6 [.ref 61] σ (m7_neverNow σ) := by
  refine cok_of (own := RX7) (by decide) rfl (fun ad => Nat.le_of_ble_eq_true rfl) (fun κ hκ => ?_)
  show Ab sy_vi κ 0 [sy_vr 61, none, none] [] σ (m7_neverNow σ)
  unfold m7_neverNow
  refine ab_iconst (v := 0) hκ dX7_neverNow_0 rfl ?_
  refine ab_istore_n (lv' := [sy_vr 61, sy_vi 0, none]) hκ dX7_neverNow_1 rfl (by decide) rfl ?_
  refine ab_iconst (v := 0) hκ dX7_neverNow_2 rfl ?_
  refine ab_istore_n (lv' := [sy_vr 61, sy_vi 0, sy_vi 0]) hκ dX7_neverNow_3 rfl (by decide) rfl ?_
  refine m7_neverNow_L4_ok hκ ?_ _ _ _ _
  · intro y8 σ9
    refine ab_aload_n hκ dX7_neverNow_42 rfl ?_
    refine ab_iconst (v := 0) hκ dX7_neverNow_43 rfl ?_
    refine ab_putf hκ (sy_o7 rfl) kp_RX7_160 rfl dX7_neverNow_44 ?_
    refine ab_lts (fun σ10 => ?_)
    refine ab_iload_n hκ dX7_neverNow_47 rfl ?_
    exact ab_iret hκ dX7_neverNow_48
-- BreathBandModel.never()I, depth 7
def m7_never (σ : St) : Option (Int32 × St) := sy_bd (m7_find σ) (fun _ σ1 => sy_bd (m7_neverNow σ1) (fun r3 σ2 => some (r3, σ2)))
set_option maxRecDepth 100000 in
set_option maxHeartbeats 4000000 in
theorem m7_never_ok (σ : St) : Cok sy_vi yX7_never cX7_never 1 (some .int) 7 [.ref 61] σ (m7_never σ) := by
  refine cok_of (own := RX7) (by decide) rfl (fun ad => Nat.le_of_ble_eq_true rfl) (fun κ hκ => ?_)
  show Ab sy_vi κ 0 [sy_vr 61] [] σ (m7_never σ)
  unfold m7_never
  refine ab_aload_n hκ dX7_never_0 rfl ?_
  refine ab_cVv (vs := []) (st := []) hκ dX7_never_1 kl_RX7_204 ki_X7_find kv_X7_find (sy_o7 rfl) rfl rfl (m7_find_ok σ) rfl (by decide) (Nat.le_of_ble_eq_true rfl) rfl (fun _ σ1 => ?_)
  refine ab_aload_n hκ dX7_never_4 rfl ?_
  refine ab_cVi (vs := []) (st := []) hκ dX7_never_5 kl_RX7_258 ki_X7_neverNow kv_X7_neverNow (sy_o7 rfl) rfl rfl (m7_neverNow_ok σ1) rfl (by decide) (Nat.le_of_ble_eq_true rfl) rfl (fun r3 σ2 => ?_)
  exact ab_iret hκ dX7_never_8
-- BreathBandModel.wasteOf(I)I, depth 6
def m7_wasteOf_L55b (K55 : Int32 → Int32 → Int32 → Int32 → Int32 → St → Option (Int32 × St)) (E55_90 : Int32 → Int32 → Int32 → Int32 → St → Option (Int32 × St)) (x10 : Int32) (x11 : Int32) (x12 : Int32) (x13 : Int32) (x14 : Int32) (σ : St) : Option (Int32 × St) := if (σ 61 9) ≤ x14 then (E55_90 x10 x11 x12 x13 σ) else (sy_gd x14 16 (sy_gd ((16 * x13) + x14) 64 (sy_lt (sy_sf σ 80 (sy_ix ((16 * x13) + x14)) (σ 74 (sy_ix x14))) (fun σ15 => K55 x10 x11 x12 x13 (x14 + 1) σ15))))
def m7_wasteOf_L55 (E55_90 : Int32 → Int32 → Int32 → Int32 → St → Option (Int32 × St)) : Nat → Int32 → Int32 → Int32 → Int32 → Int32 → St → Option (Int32 × St)
  | 0 => fun _ _ _ _ _ _ => none
  | n + 1 => m7_wasteOf_L55b  (m7_wasteOf_L55  E55_90 n) E55_90
set_option maxRecDepth 100000 in
set_option maxHeartbeats 4000000 in
theorem m7_wasteOf_L55b_ok {κ : Kx} (hκ : Gd κ cX7_wasteOf 6 RX7 (some .int) 6) {K55 : Int32 → Int32 → Int32 → Int32 → Int32 → St → Option (Int32 × St)} (hK55 : ∀ (x10 : Int32) (x11 : Int32) (x12 : Int32) (x13 : Int32) (x14 : Int32) (σ : St), Ab sy_vi κ 55 [sy_vr 61, sy_vi x10, sy_vi x11, sy_vi x12, sy_vi x13, sy_vi x14] [] σ (K55 x10 x11 x12 x13 x14 σ)) {E55_90 : Int32 → Int32 → Int32 → Int32 → St → Option (Int32 × St)} (hE55_90 : ∀ (y1 : Int32) (y2 : Int32) (y3 : Int32) (y4 : Int32) (σ : St), Ab sy_vi κ 90 [sy_vr 61, sy_vi y1, sy_vi y2, sy_vi y3, sy_vi y4, none] [] σ (E55_90 y1 y2 y3 y4 σ)) (x10 : Int32) (x11 : Int32) (x12 : Int32) (x13 : Int32) (x14 : Int32) (σ : St) : Ab sy_vi κ 55 [sy_vr 61, sy_vi x10, sy_vi x11, sy_vi x12, sy_vi x13, sy_vi x14] [] σ (m7_wasteOf_L55b  K55 E55_90 x10 x11 x12 x13 x14 σ) := by
  unfold m7_wasteOf_L55b
  refine ab_iload hκ dX7_wasteOf_55 rfl ?_
  refine ab_aload_n hκ dX7_wasteOf_57 rfl ?_
  refine ab_getf (v := .int (σ 61 9)) hκ (sy_o7 rfl) kf_RX7_124 rfl dX7_wasteOf_58 rfl ?_
  refine ab_icmp_ge (tgt := 90) hκ dX7_wasteOf_61 rfl ?_ ?_
  · refine ab_fg (lv' := [sy_vr 61, sy_vi x10, sy_vi x11, sy_vi x12, sy_vi x13, none]) [5] rfl ?_
    exact hE55_90 x10 x11 x12 x13 σ
  · refine ab_aload_n hκ dX7_wasteOf_64 rfl ?_
    refine ab_getf (v := .ref 80) hκ (sy_o7 rfl) kf_RX7_64 rfl dX7_wasteOf_65 rfl ?_
    refine ab_bipush (v := 16) hκ dX7_wasteOf_68 rfl ?_
    refine ab_iload hκ dX7_wasteOf_70 rfl ?_
    refine ab_imul hκ dX7_wasteOf_72 ?_
    refine ab_iload hκ dX7_wasteOf_73 rfl ?_
    refine ab_iadd hκ dX7_wasteOf_75 ?_
    refine ab_aload_n hκ dX7_wasteOf_76 rfl ?_
    refine ab_getf (v := .ref 74) hκ (sy_o7 rfl) kf_RX7_46 rfl dX7_wasteOf_77 rfl ?_
    refine ab_iload hκ dX7_wasteOf_80 rfl ?_
    refine ab_iald hκ rfl dX7_wasteOf_82 ?_
    refine ab_iast hκ rfl dX7_wasteOf_83 ?_
    refine ab_lts (fun σ15 => ?_)
    refine ab_iinc (v := (x14 + 1)) (lv' := [sy_vr 61, sy_vi x10, sy_vi x11, sy_vi x12, sy_vi x13, sy_vi (x14 + 1)]) hκ dX7_wasteOf_84 rfl rfl (by decide) rfl ?_
    refine ab_goto (tgt := 55) hκ dX7_wasteOf_87 rfl ?_
    exact hK55 x10 x11 x12 x13 (x14 + 1) σ15
theorem m7_wasteOf_L55_ok {κ : Kx} (hκ : Gd κ cX7_wasteOf 6 RX7 (some .int) 6) {E55_90 : Int32 → Int32 → Int32 → Int32 → St → Option (Int32 × St)} (hE55_90 : ∀ (y1 : Int32) (y2 : Int32) (y3 : Int32) (y4 : Int32) (σ : St), Ab sy_vi κ 90 [sy_vr 61, sy_vi y1, sy_vi y2, sy_vi y3, sy_vi y4, none] [] σ (E55_90 y1 y2 y3 y4 σ)) : ∀ (n : Nat) (x10 : Int32) (x11 : Int32) (x12 : Int32) (x13 : Int32) (x14 : Int32) (σ : St), Ab sy_vi κ 55 [sy_vr 61, sy_vi x10, sy_vi x11, sy_vi x12, sy_vi x13, sy_vi x14] [] σ (m7_wasteOf_L55  E55_90 n x10 x11 x12 x13 x14 σ) := by
  intro n
  induction n with
  | zero => intros; exact ab_none
  | succ n ih => exact fun x10 x11 x12 x13 x14 σ => m7_wasteOf_L55b_ok hκ   ih hE55_90 x10 x11 x12 x13 x14 σ
def m7_wasteOf_L16b (K16 : Int32 → Int32 → Int32 → Int32 → St → Option (Int32 × St)) (E16_96 : Int32 → Int32 → Int32 → St → Option (Int32 × St)) (x2 : Int32) (x3 : Int32) (x4 : Int32) (x5 : Int32) (σ : St) : Option (Int32 × St) := if 4 ≤ x5 then (E16_96 x2 x3 x4 σ) else (sy_gd ((2 * x2) + 1) 22 (sy_lt (sy_sf σ 68 (sy_ix ((2 * x2) + 1)) x5) (fun σ6 => sy_bd (m7_isHeard σ6) (fun r8 σ7 => if r8 = 0 then (sy_lt (x4 ||| 0) (fun v9 => m7_wasteOf_L55 (fun y16 y17 y18 y19 σ20 => K16 y16 y17 y18 (y19 + 1) σ20) sy_FU x2 x3 v9 x5 0 σ7)) else (sy_lt (x4 ||| (1 <<< (x5 &&& 31))) (fun v21 => m7_wasteOf_L55 (fun y22 y23 y24 y25 σ26 => K16 y22 y23 y24 (y25 + 1) σ26) sy_FU x2 x3 v21 x5 0 σ7))))))
def m7_wasteOf_L16 (E16_96 : Int32 → Int32 → Int32 → St → Option (Int32 × St)) : Nat → Int32 → Int32 → Int32 → Int32 → St → Option (Int32 × St)
  | 0 => fun _ _ _ _ _ => none
  | n + 1 => m7_wasteOf_L16b  (m7_wasteOf_L16  E16_96 n) E16_96
set_option maxRecDepth 100000 in
set_option maxHeartbeats 4000000 in
theorem m7_wasteOf_L16b_ok {κ : Kx} (hκ : Gd κ cX7_wasteOf 6 RX7 (some .int) 6) {K16 : Int32 → Int32 → Int32 → Int32 → St → Option (Int32 × St)} (hK16 : ∀ (x2 : Int32) (x3 : Int32) (x4 : Int32) (x5 : Int32) (σ : St), Ab sy_vi κ 16 [sy_vr 61, sy_vi x2, sy_vi x3, sy_vi x4, sy_vi x5, none] [] σ (K16 x2 x3 x4 x5 σ)) {E16_96 : Int32 → Int32 → Int32 → St → Option (Int32 × St)} (hE16_96 : ∀ (y1 : Int32) (y2 : Int32) (y3 : Int32) (σ : St), Ab sy_vi κ 96 [sy_vr 61, sy_vi y1, sy_vi y2, sy_vi y3, none, none] [] σ (E16_96 y1 y2 y3 σ)) (x2 : Int32) (x3 : Int32) (x4 : Int32) (x5 : Int32) (σ : St) : Ab sy_vi κ 16 [sy_vr 61, sy_vi x2, sy_vi x3, sy_vi x4, sy_vi x5, none] [] σ (m7_wasteOf_L16b  K16 E16_96 x2 x3 x4 x5 σ) := by
  unfold m7_wasteOf_L16b
  refine ab_iload hκ dX7_wasteOf_16 rfl ?_
  refine ab_iconst (v := 4) hκ dX7_wasteOf_18 rfl ?_
  refine ab_icmp_ge (tgt := 96) hκ dX7_wasteOf_19 rfl ?_ ?_
  · refine ab_fg (lv' := [sy_vr 61, sy_vi x2, sy_vi x3, sy_vi x4, none, none]) [4] rfl ?_
    exact hE16_96 x2 x3 x4 σ
  · refine ab_aload_n hκ dX7_wasteOf_22 rfl ?_
    refine ab_getf (v := .ref 68) hκ (sy_o7 rfl) kf_RX7_28 rfl dX7_wasteOf_23 rfl ?_
    refine ab_iconst (v := 2) hκ dX7_wasteOf_26 rfl ?_
    refine ab_iload_n hκ dX7_wasteOf_27 rfl ?_
    refine ab_imul hκ dX7_wasteOf_28 ?_
    refine ab_iconst (v := 1) hκ dX7_wasteOf_29 rfl ?_
    refine ab_iadd hκ dX7_wasteOf_30 ?_
    refine ab_iload hκ dX7_wasteOf_31 rfl ?_
    refine ab_iast hκ rfl dX7_wasteOf_33 ?_
    refine ab_lts (fun σ6 => ?_)
    refine ab_iload_n hκ dX7_wasteOf_34 rfl ?_
    refine ab_aload_n hκ dX7_wasteOf_35 rfl ?_
    refine ab_cVi (vs := []) (st := [.int x4]) hκ dX7_wasteOf_36 kl_RX7_254 ki_X7_isHeard kv_X7_isHeard (sy_o7 rfl) rfl rfl (m7_isHeard_ok σ6) rfl (by decide) (Nat.le_of_ble_eq_true rfl) rfl (fun r8 σ7 => ?_)
    refine ab_if_eq (tgt := 49) hκ dX7_wasteOf_39 rfl ?_ ?_
    · refine ab_iconst (v := 0) hκ dX7_wasteOf_49 rfl ?_
      refine ab_ior hκ dX7_wasteOf_50 ?_
      refine ab_lti (fun v9 => ?_)
      refine ab_istore_n (lv' := [sy_vr 61, sy_vi x2, sy_vi x3, sy_vi v9, sy_vi x5, none]) hκ dX7_wasteOf_51 rfl (by decide) rfl ?_
      refine ab_iconst (v := 0) hκ dX7_wasteOf_52 rfl ?_
      refine ab_istore (lv' := [sy_vr 61, sy_vi x2, sy_vi x3, sy_vi v9, sy_vi x5, sy_vi 0]) hκ dX7_wasteOf_53 (by decide) rfl ?_
      refine m7_wasteOf_L55_ok hκ ?_ _ _ _ _ _ _ _
      · intro y16 y17 y18 y19 σ20
        refine ab_iinc (v := (y19 + 1)) (lv' := [sy_vr 61, sy_vi y16, sy_vi y17, sy_vi y18, sy_vi (y19 + 1), none]) hκ dX7_wasteOf_90 rfl rfl (by decide) rfl ?_
        refine ab_goto (tgt := 16) hκ dX7_wasteOf_93 rfl ?_
        exact hK16 y16 y17 y18 (y19 + 1) σ20
    · refine ab_iconst (v := 1) hκ dX7_wasteOf_42 rfl ?_
      refine ab_iload hκ dX7_wasteOf_43 rfl ?_
      refine ab_ishl hκ dX7_wasteOf_45 ?_
      refine ab_goto (tgt := 50) hκ dX7_wasteOf_46 rfl ?_
      refine ab_ior hκ dX7_wasteOf_50 ?_
      refine ab_lti (fun v21 => ?_)
      refine ab_istore_n (lv' := [sy_vr 61, sy_vi x2, sy_vi x3, sy_vi v21, sy_vi x5, none]) hκ dX7_wasteOf_51 rfl (by decide) rfl ?_
      refine ab_iconst (v := 0) hκ dX7_wasteOf_52 rfl ?_
      refine ab_istore (lv' := [sy_vr 61, sy_vi x2, sy_vi x3, sy_vi v21, sy_vi x5, sy_vi 0]) hκ dX7_wasteOf_53 (by decide) rfl ?_
      refine m7_wasteOf_L55_ok hκ ?_ _ _ _ _ _ _ _
      · intro y22 y23 y24 y25 σ26
        refine ab_iinc (v := (y25 + 1)) (lv' := [sy_vr 61, sy_vi y22, sy_vi y23, sy_vi y24, sy_vi (y25 + 1), none]) hκ dX7_wasteOf_90 rfl rfl (by decide) rfl ?_
        refine ab_goto (tgt := 16) hκ dX7_wasteOf_93 rfl ?_
        exact hK16 y22 y23 y24 (y25 + 1) σ26
theorem m7_wasteOf_L16_ok {κ : Kx} (hκ : Gd κ cX7_wasteOf 6 RX7 (some .int) 6) {E16_96 : Int32 → Int32 → Int32 → St → Option (Int32 × St)} (hE16_96 : ∀ (y1 : Int32) (y2 : Int32) (y3 : Int32) (σ : St), Ab sy_vi κ 96 [sy_vr 61, sy_vi y1, sy_vi y2, sy_vi y3, none, none] [] σ (E16_96 y1 y2 y3 σ)) : ∀ (n : Nat) (x2 : Int32) (x3 : Int32) (x4 : Int32) (x5 : Int32) (σ : St), Ab sy_vi κ 16 [sy_vr 61, sy_vi x2, sy_vi x3, sy_vi x4, sy_vi x5, none] [] σ (m7_wasteOf_L16  E16_96 n x2 x3 x4 x5 σ) := by
  intro n
  induction n with
  | zero => intros; exact ab_none
  | succ n ih => exact fun x2 x3 x4 x5 σ => m7_wasteOf_L16b_ok hκ   ih hE16_96 x2 x3 x4 x5 σ
def m7_wasteOf (a1 : Int32) (σ : St) : Option (Int32 × St) := sy_gd ((2 * a1) + 1) 22 (sy_lt (σ 68 (sy_ix ((2 * a1) + 1))) (fun v1 => m7_wasteOf_L16 (fun y27 y28 y29 σ30 => sy_gd ((2 * y27) + 1) 22 (sy_lt (sy_sf σ30 68 (sy_ix ((2 * y27) + 1)) y28) (fun σ31 => some (y29, σ31)))) sy_FU a1 v1 0 0 σ))
set_option maxRecDepth 100000 in
set_option maxHeartbeats 4000000 in
theorem m7_wasteOf_ok (a1 : Int32) (σ : St) : Cok sy_vi yX7_wasteOf cX7_wasteOf 6 (some .int) 6 [.ref 61, .int a1] σ (m7_wasteOf a1 σ) := by
  refine cok_of (own := RX7) (by decide) rfl (fun ad => Nat.le_of_ble_eq_true rfl) (fun κ hκ => ?_)
  show Ab sy_vi κ 0 [sy_vr 61, sy_vi a1, none, none, none, none] [] σ (m7_wasteOf a1 σ)
  unfold m7_wasteOf
  refine ab_aload_n hκ dX7_wasteOf_0 rfl ?_
  refine ab_getf (v := .ref 68) hκ (sy_o7 rfl) kf_RX7_28 rfl dX7_wasteOf_1 rfl ?_
  refine ab_iconst (v := 2) hκ dX7_wasteOf_4 rfl ?_
  refine ab_iload_n hκ dX7_wasteOf_5 rfl ?_
  refine ab_imul hκ dX7_wasteOf_6 ?_
  refine ab_iconst (v := 1) hκ dX7_wasteOf_7 rfl ?_
  refine ab_iadd hκ dX7_wasteOf_8 ?_
  refine ab_iald hκ rfl dX7_wasteOf_9 ?_
  refine ab_lti (fun v1 => ?_)
  refine ab_istore_n (lv' := [sy_vr 61, sy_vi a1, sy_vi v1, none, none, none]) hκ dX7_wasteOf_10 rfl (by decide) rfl ?_
  refine ab_iconst (v := 0) hκ dX7_wasteOf_11 rfl ?_
  refine ab_istore_n (lv' := [sy_vr 61, sy_vi a1, sy_vi v1, sy_vi 0, none, none]) hκ dX7_wasteOf_12 rfl (by decide) rfl ?_
  refine ab_iconst (v := 0) hκ dX7_wasteOf_13 rfl ?_
  refine ab_istore (lv' := [sy_vr 61, sy_vi a1, sy_vi v1, sy_vi 0, sy_vi 0, none]) hκ dX7_wasteOf_14 (by decide) rfl ?_
  refine m7_wasteOf_L16_ok hκ ?_ _ _ _ _ _ _
  · intro y27 y28 y29 σ30
    refine ab_aload_n hκ dX7_wasteOf_96 rfl ?_
    refine ab_getf (v := .ref 68) hκ (sy_o7 rfl) kf_RX7_28 rfl dX7_wasteOf_97 rfl ?_
    refine ab_iconst (v := 2) hκ dX7_wasteOf_100 rfl ?_
    refine ab_iload_n hκ dX7_wasteOf_101 rfl ?_
    refine ab_imul hκ dX7_wasteOf_102 ?_
    refine ab_iconst (v := 1) hκ dX7_wasteOf_103 rfl ?_
    refine ab_iadd hκ dX7_wasteOf_104 ?_
    refine ab_iload_n hκ dX7_wasteOf_105 rfl ?_
    refine ab_iast hκ rfl dX7_wasteOf_106 ?_
    refine ab_lts (fun σ31 => ?_)
    refine ab_iload_n hκ dX7_wasteOf_107 rfl ?_
    exact ab_iret hκ dX7_wasteOf_108
-- BreathBandModel.sortOf(I)I, depth 6
def m7_sortOf_L14b (K14 : Int32 → Int32 → Int32 → Int32 → St → Option (Int32 × St)) (E14_54 : Int32 → Int32 → Int32 → St → Option (Int32 × St)) (x2 : Int32) (x3 : Int32) (x4 : Int32) (x5 : Int32) (σ : St) : Option (Int32 × St) := if 3 ≤ x5 then (E14_54 x2 x3 x4 σ) else (sy_gd (2 * x2) 22 (sy_lt (sy_sf σ 68 (sy_ix (2 * x2)) x5) (fun σ6 => sy_bd (m7_isHeard σ6) (fun r8 σ7 => if r8 = 0 then (sy_lt (x4 ||| 0) (fun v9 => K14 x2 x3 v9 (x5 + 1) σ7)) else (sy_lt (x4 ||| (1 <<< (x5 &&& 31))) (fun v10 => K14 x2 x3 v10 (x5 + 1) σ7))))))
def m7_sortOf_L14 (E14_54 : Int32 → Int32 → Int32 → St → Option (Int32 × St)) : Nat → Int32 → Int32 → Int32 → Int32 → St → Option (Int32 × St)
  | 0 => fun _ _ _ _ _ => none
  | n + 1 => m7_sortOf_L14b  (m7_sortOf_L14  E14_54 n) E14_54
set_option maxRecDepth 100000 in
set_option maxHeartbeats 4000000 in
theorem m7_sortOf_L14b_ok {κ : Kx} (hκ : Gd κ cX7_sortOf 5 RX7 (some .int) 6) {K14 : Int32 → Int32 → Int32 → Int32 → St → Option (Int32 × St)} (hK14 : ∀ (x2 : Int32) (x3 : Int32) (x4 : Int32) (x5 : Int32) (σ : St), Ab sy_vi κ 14 [sy_vr 61, sy_vi x2, sy_vi x3, sy_vi x4, sy_vi x5] [] σ (K14 x2 x3 x4 x5 σ)) {E14_54 : Int32 → Int32 → Int32 → St → Option (Int32 × St)} (hE14_54 : ∀ (y1 : Int32) (y2 : Int32) (y3 : Int32) (σ : St), Ab sy_vi κ 54 [sy_vr 61, sy_vi y1, sy_vi y2, sy_vi y3, none] [] σ (E14_54 y1 y2 y3 σ)) (x2 : Int32) (x3 : Int32) (x4 : Int32) (x5 : Int32) (σ : St) : Ab sy_vi κ 14 [sy_vr 61, sy_vi x2, sy_vi x3, sy_vi x4, sy_vi x5] [] σ (m7_sortOf_L14b  K14 E14_54 x2 x3 x4 x5 σ) := by
  unfold m7_sortOf_L14b
  refine ab_iload hκ dX7_sortOf_14 rfl ?_
  refine ab_iconst (v := 3) hκ dX7_sortOf_16 rfl ?_
  refine ab_icmp_ge (tgt := 54) hκ dX7_sortOf_17 rfl ?_ ?_
  · refine ab_fg (lv' := [sy_vr 61, sy_vi x2, sy_vi x3, sy_vi x4, none]) [4] rfl ?_
    exact hE14_54 x2 x3 x4 σ
  · refine ab_aload_n hκ dX7_sortOf_20 rfl ?_
    refine ab_getf (v := .ref 68) hκ (sy_o7 rfl) kf_RX7_28 rfl dX7_sortOf_21 rfl ?_
    refine ab_iconst (v := 2) hκ dX7_sortOf_24 rfl ?_
    refine ab_iload_n hκ dX7_sortOf_25 rfl ?_
    refine ab_imul hκ dX7_sortOf_26 ?_
    refine ab_iload hκ dX7_sortOf_27 rfl ?_
    refine ab_iast hκ rfl dX7_sortOf_29 ?_
    refine ab_lts (fun σ6 => ?_)
    refine ab_iload_n hκ dX7_sortOf_30 rfl ?_
    refine ab_aload_n hκ dX7_sortOf_31 rfl ?_
    refine ab_cVi (vs := []) (st := [.int x4]) hκ dX7_sortOf_32 kl_RX7_254 ki_X7_isHeard kv_X7_isHeard (sy_o7 rfl) rfl rfl (m7_isHeard_ok σ6) rfl (by decide) (Nat.le_of_ble_eq_true rfl) rfl (fun r8 σ7 => ?_)
    refine ab_if_eq (tgt := 45) hκ dX7_sortOf_35 rfl ?_ ?_
    · refine ab_iconst (v := 0) hκ dX7_sortOf_45 rfl ?_
      refine ab_ior hκ dX7_sortOf_46 ?_
      refine ab_lti (fun v9 => ?_)
      refine ab_istore_n (lv' := [sy_vr 61, sy_vi x2, sy_vi x3, sy_vi v9, sy_vi x5]) hκ dX7_sortOf_47 rfl (by decide) rfl ?_
      refine ab_iinc (v := (x5 + 1)) (lv' := [sy_vr 61, sy_vi x2, sy_vi x3, sy_vi v9, sy_vi (x5 + 1)]) hκ dX7_sortOf_48 rfl rfl (by decide) rfl ?_
      refine ab_goto (tgt := 14) hκ dX7_sortOf_51 rfl ?_
      exact hK14 x2 x3 v9 (x5 + 1) σ7
    · refine ab_iconst (v := 1) hκ dX7_sortOf_38 rfl ?_
      refine ab_iload hκ dX7_sortOf_39 rfl ?_
      refine ab_ishl hκ dX7_sortOf_41 ?_
      refine ab_goto (tgt := 46) hκ dX7_sortOf_42 rfl ?_
      refine ab_ior hκ dX7_sortOf_46 ?_
      refine ab_lti (fun v10 => ?_)
      refine ab_istore_n (lv' := [sy_vr 61, sy_vi x2, sy_vi x3, sy_vi v10, sy_vi x5]) hκ dX7_sortOf_47 rfl (by decide) rfl ?_
      refine ab_iinc (v := (x5 + 1)) (lv' := [sy_vr 61, sy_vi x2, sy_vi x3, sy_vi v10, sy_vi (x5 + 1)]) hκ dX7_sortOf_48 rfl rfl (by decide) rfl ?_
      refine ab_goto (tgt := 14) hκ dX7_sortOf_51 rfl ?_
      exact hK14 x2 x3 v10 (x5 + 1) σ7
theorem m7_sortOf_L14_ok {κ : Kx} (hκ : Gd κ cX7_sortOf 5 RX7 (some .int) 6) {E14_54 : Int32 → Int32 → Int32 → St → Option (Int32 × St)} (hE14_54 : ∀ (y1 : Int32) (y2 : Int32) (y3 : Int32) (σ : St), Ab sy_vi κ 54 [sy_vr 61, sy_vi y1, sy_vi y2, sy_vi y3, none] [] σ (E14_54 y1 y2 y3 σ)) : ∀ (n : Nat) (x2 : Int32) (x3 : Int32) (x4 : Int32) (x5 : Int32) (σ : St), Ab sy_vi κ 14 [sy_vr 61, sy_vi x2, sy_vi x3, sy_vi x4, sy_vi x5] [] σ (m7_sortOf_L14  E14_54 n x2 x3 x4 x5 σ) := by
  intro n
  induction n with
  | zero => intros; exact ab_none
  | succ n ih => exact fun x2 x3 x4 x5 σ => m7_sortOf_L14b_ok hκ   ih hE14_54 x2 x3 x4 x5 σ
def m7_sortOf (a1 : Int32) (σ : St) : Option (Int32 × St) := sy_gd (2 * a1) 22 (sy_lt (σ 68 (sy_ix (2 * a1))) (fun v1 => m7_sortOf_L14 (fun y11 y12 y13 σ14 => sy_gd (2 * y11) 22 (sy_lt (sy_sf σ14 68 (sy_ix (2 * y11)) y12) (fun σ15 => some (y13, σ15)))) sy_FU a1 v1 0 0 σ))
set_option maxRecDepth 100000 in
set_option maxHeartbeats 4000000 in
theorem m7_sortOf_ok (a1 : Int32) (σ : St) : Cok sy_vi yX7_sortOf cX7_sortOf 5 (some .int) 6 [.ref 61, .int a1] σ (m7_sortOf a1 σ) := by
  refine cok_of (own := RX7) (by decide) rfl (fun ad => Nat.le_of_ble_eq_true rfl) (fun κ hκ => ?_)
  show Ab sy_vi κ 0 [sy_vr 61, sy_vi a1, none, none, none] [] σ (m7_sortOf a1 σ)
  unfold m7_sortOf
  refine ab_aload_n hκ dX7_sortOf_0 rfl ?_
  refine ab_getf (v := .ref 68) hκ (sy_o7 rfl) kf_RX7_28 rfl dX7_sortOf_1 rfl ?_
  refine ab_iconst (v := 2) hκ dX7_sortOf_4 rfl ?_
  refine ab_iload_n hκ dX7_sortOf_5 rfl ?_
  refine ab_imul hκ dX7_sortOf_6 ?_
  refine ab_iald hκ rfl dX7_sortOf_7 ?_
  refine ab_lti (fun v1 => ?_)
  refine ab_istore_n (lv' := [sy_vr 61, sy_vi a1, sy_vi v1, none, none]) hκ dX7_sortOf_8 rfl (by decide) rfl ?_
  refine ab_iconst (v := 0) hκ dX7_sortOf_9 rfl ?_
  refine ab_istore_n (lv' := [sy_vr 61, sy_vi a1, sy_vi v1, sy_vi 0, none]) hκ dX7_sortOf_10 rfl (by decide) rfl ?_
  refine ab_iconst (v := 0) hκ dX7_sortOf_11 rfl ?_
  refine ab_istore (lv' := [sy_vr 61, sy_vi a1, sy_vi v1, sy_vi 0, sy_vi 0]) hκ dX7_sortOf_12 (by decide) rfl ?_
  refine m7_sortOf_L14_ok hκ ?_ _ _ _ _ _ _
  · intro y11 y12 y13 σ14
    refine ab_aload_n hκ dX7_sortOf_54 rfl ?_
    refine ab_getf (v := .ref 68) hκ (sy_o7 rfl) kf_RX7_28 rfl dX7_sortOf_55 rfl ?_
    refine ab_iconst (v := 2) hκ dX7_sortOf_58 rfl ?_
    refine ab_iload_n hκ dX7_sortOf_59 rfl ?_
    refine ab_imul hκ dX7_sortOf_60 ?_
    refine ab_iload_n hκ dX7_sortOf_61 rfl ?_
    refine ab_iast hκ rfl dX7_sortOf_62 ?_
    refine ab_lts (fun σ15 => ?_)
    refine ab_iload_n hκ dX7_sortOf_63 rfl ?_
    exact ab_iret hκ dX7_sortOf_64
-- BreathBandModel.wasOf(II)I, depth 7
def m7_wasOf (a1 : Int32) (a2 : Int32) (σ : St) : Option (Int32 × St) := if a2 = 0 then (sy_bd (m7_wasteOf a1 σ) (fun r4 σ3 => some (r4, σ3))) else (sy_bd (m7_sortOf a1 σ) (fun r2 σ1 => some (r2, σ1)))
set_option maxRecDepth 100000 in
set_option maxHeartbeats 4000000 in
theorem m7_wasOf_ok (a1 : Int32) (a2 : Int32) (σ : St) : Cok sy_vi yX7_wasOf cX7_wasOf 3 (some .int) 7 [.ref 61, .int a1, .int a2] σ (m7_wasOf a1 a2 σ) := by
  refine cok_of (own := RX7) (by decide) rfl (fun ad => Nat.le_of_ble_eq_true rfl) (fun κ hκ => ?_)
  show Ab sy_vi κ 0 [sy_vr 61, sy_vi a1, sy_vi a2] [] σ (m7_wasOf a1 a2 σ)
  unfold m7_wasOf
  refine ab_iload_n hκ dX7_wasOf_0 rfl ?_
  refine ab_if_ne (tgt := 12) hκ dX7_wasOf_1 rfl ?_ ?_
  · refine ab_aload_n hκ dX7_wasOf_12 rfl ?_
    refine ab_iload_n hκ dX7_wasOf_13 rfl ?_
    refine ab_cVi (vs := [.int a1]) (st := []) hκ dX7_wasOf_14 kl_RX7_264 ki_X7_sortOf kv_X7_sortOf (sy_o7 rfl) rfl rfl (m7_sortOf_ok a1 σ) rfl (by decide) (Nat.le_of_ble_eq_true rfl) rfl (fun r2 σ1 => ?_)
    exact ab_iret hκ dX7_wasOf_17
  · refine ab_aload_n hκ dX7_wasOf_4 rfl ?_
    refine ab_iload_n hκ dX7_wasOf_5 rfl ?_
    refine ab_cVi (vs := [.int a1]) (st := []) hκ dX7_wasOf_6 kl_RX7_261 ki_X7_wasteOf kv_X7_wasteOf (sy_o7 rfl) rfl rfl (m7_wasteOf_ok a1 σ) rfl (by decide) (Nat.le_of_ble_eq_true rfl) rfl (fun r4 σ3 => ?_)
    refine ab_goto (tgt := 17) hκ dX7_wasOf_9 rfl ?_
    exact ab_iret hκ dX7_wasOf_17
-- BreathBandModel.was(II)I, depth 8
def m7_was (a1 : Int32) (a2 : Int32) (σ : St) : Option (Int32 × St) := sy_bd (m7_find σ) (fun _ σ1 => sy_bd (m7_isPlayer a1 σ1) (fun r3 σ2 => if r3 = 0 then (some ((-2), σ2)) else (sy_bd (m7_isTwo a2 σ2) (fun r5 σ4 => if r5 = 0 then (some ((-2), σ4)) else (sy_bd (m7_wasOf a1 a2 σ4) (fun r7 σ6 => some (r7, σ6)))))))
set_option maxRecDepth 100000 in
set_option maxHeartbeats 4000000 in
theorem m7_was_ok (a1 : Int32) (a2 : Int32) (σ : St) : Cok sy_vi yX7_was cX7_was 3 (some .int) 8 [.ref 61, .int a1, .int a2] σ (m7_was a1 a2 σ) := by
  refine cok_of (own := RX7) (by decide) rfl (fun ad => Nat.le_of_ble_eq_true rfl) (fun κ hκ => ?_)
  show Ab sy_vi κ 0 [sy_vr 61, sy_vi a1, sy_vi a2] [] σ (m7_was a1 a2 σ)
  unfold m7_was
  refine ab_aload_n hκ dX7_was_0 rfl ?_
  refine ab_cVv (vs := []) (st := []) hκ dX7_was_1 kl_RX7_204 ki_X7_find kv_X7_find (sy_o7 rfl) rfl rfl (m7_find_ok σ) rfl (by decide) (Nat.le_of_ble_eq_true rfl) rfl (fun _ σ1 => ?_)
  refine ab_aload_n hκ dX7_was_4 rfl ?_
  refine ab_iload_n hκ dX7_was_5 rfl ?_
  refine ab_cVi (vs := [.int a1]) (st := []) hκ dX7_was_6 kl_RX7_142 ki_X7_isPlayer kv_X7_isPlayer (sy_o7 rfl) rfl rfl (m7_isPlayer_ok a1 σ1) rfl (by decide) (Nat.le_of_ble_eq_true rfl) rfl (fun r3 σ2 => ?_)
  refine ab_if_eq (tgt := 28) hκ dX7_was_9 rfl ?_ ?_
  · refine ab_bipush (v := (-2)) hκ dX7_was_28 rfl ?_
    exact ab_iret hκ dX7_was_30
  · refine ab_iload_n hκ dX7_was_12 rfl ?_
    refine ab_cSi (vs := [.int a2]) (st := []) hκ dX7_was_13 kl_RX7_104 ki_X7_isTwo kv_X7_isTwo (m7_isTwo_ok a2 σ2) rfl (by decide) (Nat.le_of_ble_eq_true rfl) rfl (fun r5 σ4 => ?_)
    refine ab_if_eq (tgt := 28) hκ dX7_was_16 rfl ?_ ?_
    · refine ab_bipush (v := (-2)) hκ dX7_was_28 rfl ?_
      exact ab_iret hκ dX7_was_30
    · refine ab_aload_n hκ dX7_was_19 rfl ?_
      refine ab_iload_n hκ dX7_was_20 rfl ?_
      refine ab_iload_n hκ dX7_was_21 rfl ?_
      refine ab_cVi (vs := [.int a1, .int a2]) (st := []) hκ dX7_was_22 kl_RX7_267 ki_X7_wasOf kv_X7_wasOf (sy_o7 rfl) rfl rfl (m7_wasOf_ok a1 a2 σ4) rfl (by decide) (Nat.le_of_ble_eq_true rfl) rfl (fun r7 σ6 => ?_)
      refine ab_goto (tgt := 30) hκ dX7_was_25 rfl ?_
      exact ab_iret hκ dX7_was_30
-- BreathBandModel.alike(II)I, depth 1
def m7_alike_L17b (K17 : Int32 → Int32 → Int32 → Int32 → Int32 → Int32 → St → Option (Int32 × St)) (E17_84 : Int32 → Int32 → Int32 → Int32 → Int32 → St → Option (Int32 × St)) (x5 : Int32) (x6 : Int32) (x7 : Int32) (x8 : Int32) (x9 : Int32) (x10 : Int32) (σ : St) : Option (Int32 × St) := if 4 ≤ x10 then (E17_84 x5 x6 x7 x8 x9 σ) else (sy_bd (m7_isIn x5 x8 σ) (fun r12 σ11 => if r12 = 0 then (sy_lt (x9 + 0) (fun v13 => K17 x5 x6 x7 x8 v13 (x10 + 1) σ11)) else (sy_bd (m7_isIn x5 x10 σ11) (fun r15 σ14 => if r15 = 0 then (sy_lt (x9 + 0) (fun v16 => K17 x5 x6 x7 x8 v16 (x10 + 1) σ14)) else (sy_gd ((16 * x8) + x6) 64 (sy_gd ((16 * x10) + x6) 64 (if (σ14 80 (sy_ix ((16 * x8) + x6))) = (σ14 80 (sy_ix ((16 * x10) + x6))) then (sy_lt (x9 + 1) (fun v18 => K17 x5 x6 x7 x8 v18 (x10 + 1) σ14)) else (sy_lt (x9 + 0) (fun v17 => K17 x5 x6 x7 x8 v17 (x10 + 1) σ14)))))))))
def m7_alike_L17 (E17_84 : Int32 → Int32 → Int32 → Int32 → Int32 → St → Option (Int32 × St)) : Nat → Int32 → Int32 → Int32 → Int32 → Int32 → Int32 → St → Option (Int32 × St)
  | 0 => fun _ _ _ _ _ _ _ => none
  | n + 1 => m7_alike_L17b  (m7_alike_L17  E17_84 n) E17_84
set_option maxRecDepth 100000 in
set_option maxHeartbeats 4000000 in
theorem m7_alike_L17b_ok {κ : Kx} (hκ : Gd κ cX7_alike 7 RX7 (some .int) 1) {K17 : Int32 → Int32 → Int32 → Int32 → Int32 → Int32 → St → Option (Int32 × St)} (hK17 : ∀ (x5 : Int32) (x6 : Int32) (x7 : Int32) (x8 : Int32) (x9 : Int32) (x10 : Int32) (σ : St), Ab sy_vi κ 17 [sy_vr 61, sy_vi x5, sy_vi x6, sy_vi x7, sy_vi x8, sy_vi x9, sy_vi x10] [] σ (K17 x5 x6 x7 x8 x9 x10 σ)) {E17_84 : Int32 → Int32 → Int32 → Int32 → Int32 → St → Option (Int32 × St)} (hE17_84 : ∀ (y1 : Int32) (y2 : Int32) (y3 : Int32) (y4 : Int32) (y5 : Int32) (σ : St), Ab sy_vi κ 84 [sy_vr 61, sy_vi y1, sy_vi y2, sy_vi y3, sy_vi y4, sy_vi y5, none] [] σ (E17_84 y1 y2 y3 y4 y5 σ)) (x5 : Int32) (x6 : Int32) (x7 : Int32) (x8 : Int32) (x9 : Int32) (x10 : Int32) (σ : St) : Ab sy_vi κ 17 [sy_vr 61, sy_vi x5, sy_vi x6, sy_vi x7, sy_vi x8, sy_vi x9, sy_vi x10] [] σ (m7_alike_L17b  K17 E17_84 x5 x6 x7 x8 x9 x10 σ) := by
  unfold m7_alike_L17b
  refine ab_iload hκ dX7_alike_17 rfl ?_
  refine ab_iconst (v := 4) hκ dX7_alike_19 rfl ?_
  refine ab_icmp_ge (tgt := 84) hκ dX7_alike_20 rfl ?_ ?_
  · refine ab_fg (lv' := [sy_vr 61, sy_vi x5, sy_vi x6, sy_vi x7, sy_vi x8, sy_vi x9, none]) [6] rfl ?_
    exact hE17_84 x5 x6 x7 x8 x9 σ
  · refine ab_iload hκ dX7_alike_23 rfl ?_
    refine ab_iload_n hκ dX7_alike_25 rfl ?_
    refine ab_iload hκ dX7_alike_26 rfl ?_
    refine ab_cSi (vs := [.int x5, .int x8]) (st := [.int x9]) hκ dX7_alike_28 kl_RX7_163 ki_X7_isIn kv_X7_isIn (m7_isIn_ok x5 x8 σ) rfl (by decide) (Nat.le_of_ble_eq_true rfl) rfl (fun r12 σ11 => ?_)
    refine ab_if_eq (tgt := 74) hκ dX7_alike_31 rfl ?_ ?_
    · refine ab_iconst (v := 0) hκ dX7_alike_74 rfl ?_
      refine ab_iadd hκ dX7_alike_75 ?_
      refine ab_lti (fun v13 => ?_)
      refine ab_istore (lv' := [sy_vr 61, sy_vi x5, sy_vi x6, sy_vi x7, sy_vi x8, sy_vi v13, sy_vi x10]) hκ dX7_alike_76 (by decide) rfl ?_
      refine ab_iinc (v := (x10 + 1)) (lv' := [sy_vr 61, sy_vi x5, sy_vi x6, sy_vi x7, sy_vi x8, sy_vi v13, sy_vi (x10 + 1)]) hκ dX7_alike_78 rfl rfl (by decide) rfl ?_
      refine ab_goto (tgt := 17) hκ dX7_alike_81 rfl ?_
      exact hK17 x5 x6 x7 x8 v13 (x10 + 1) σ11
    · refine ab_iload_n hκ dX7_alike_34 rfl ?_
      refine ab_iload hκ dX7_alike_35 rfl ?_
      refine ab_cSi (vs := [.int x5, .int x10]) (st := [.int x9]) hκ dX7_alike_37 kl_RX7_163 ki_X7_isIn kv_X7_isIn (m7_isIn_ok x5 x10 σ11) rfl (by decide) (Nat.le_of_ble_eq_true rfl) rfl (fun r15 σ14 => ?_)
      refine ab_if_eq (tgt := 74) hκ dX7_alike_40 rfl ?_ ?_
      · refine ab_iconst (v := 0) hκ dX7_alike_74 rfl ?_
        refine ab_iadd hκ dX7_alike_75 ?_
        refine ab_lti (fun v16 => ?_)
        refine ab_istore (lv' := [sy_vr 61, sy_vi x5, sy_vi x6, sy_vi x7, sy_vi x8, sy_vi v16, sy_vi x10]) hκ dX7_alike_76 (by decide) rfl ?_
        refine ab_iinc (v := (x10 + 1)) (lv' := [sy_vr 61, sy_vi x5, sy_vi x6, sy_vi x7, sy_vi x8, sy_vi v16, sy_vi (x10 + 1)]) hκ dX7_alike_78 rfl rfl (by decide) rfl ?_
        refine ab_goto (tgt := 17) hκ dX7_alike_81 rfl ?_
        exact hK17 x5 x6 x7 x8 v16 (x10 + 1) σ14
      · refine ab_aload_n hκ dX7_alike_43 rfl ?_
        refine ab_getf (v := .ref 80) hκ (sy_o7 rfl) kf_RX7_64 rfl dX7_alike_44 rfl ?_
        refine ab_bipush (v := 16) hκ dX7_alike_47 rfl ?_
        refine ab_iload hκ dX7_alike_49 rfl ?_
        refine ab_imul hκ dX7_alike_51 ?_
        refine ab_iload_n hκ dX7_alike_52 rfl ?_
        refine ab_iadd hκ dX7_alike_53 ?_
        refine ab_iald hκ rfl dX7_alike_54 ?_
        refine ab_aload_n hκ dX7_alike_55 rfl ?_
        refine ab_getf (v := .ref 80) hκ (sy_o7 rfl) kf_RX7_64 rfl dX7_alike_56 rfl ?_
        refine ab_bipush (v := 16) hκ dX7_alike_59 rfl ?_
        refine ab_iload hκ dX7_alike_61 rfl ?_
        refine ab_imul hκ dX7_alike_63 ?_
        refine ab_iload_n hκ dX7_alike_64 rfl ?_
        refine ab_iadd hκ dX7_alike_65 ?_
        refine ab_iald hκ rfl dX7_alike_66 ?_
        refine ab_icmp_ne (tgt := 74) hκ dX7_alike_67 rfl ?_ ?_
        · refine ab_iconst (v := 0) hκ dX7_alike_74 rfl ?_
          refine ab_iadd hκ dX7_alike_75 ?_
          refine ab_lti (fun v17 => ?_)
          refine ab_istore (lv' := [sy_vr 61, sy_vi x5, sy_vi x6, sy_vi x7, sy_vi x8, sy_vi v17, sy_vi x10]) hκ dX7_alike_76 (by decide) rfl ?_
          refine ab_iinc (v := (x10 + 1)) (lv' := [sy_vr 61, sy_vi x5, sy_vi x6, sy_vi x7, sy_vi x8, sy_vi v17, sy_vi (x10 + 1)]) hκ dX7_alike_78 rfl rfl (by decide) rfl ?_
          refine ab_goto (tgt := 17) hκ dX7_alike_81 rfl ?_
          exact hK17 x5 x6 x7 x8 v17 (x10 + 1) σ14
        · refine ab_iconst (v := 1) hκ dX7_alike_70 rfl ?_
          refine ab_goto (tgt := 75) hκ dX7_alike_71 rfl ?_
          refine ab_iadd hκ dX7_alike_75 ?_
          refine ab_lti (fun v18 => ?_)
          refine ab_istore (lv' := [sy_vr 61, sy_vi x5, sy_vi x6, sy_vi x7, sy_vi x8, sy_vi v18, sy_vi x10]) hκ dX7_alike_76 (by decide) rfl ?_
          refine ab_iinc (v := (x10 + 1)) (lv' := [sy_vr 61, sy_vi x5, sy_vi x6, sy_vi x7, sy_vi x8, sy_vi v18, sy_vi (x10 + 1)]) hκ dX7_alike_78 rfl rfl (by decide) rfl ?_
          refine ab_goto (tgt := 17) hκ dX7_alike_81 rfl ?_
          exact hK17 x5 x6 x7 x8 v18 (x10 + 1) σ14
theorem m7_alike_L17_ok {κ : Kx} (hκ : Gd κ cX7_alike 7 RX7 (some .int) 1) {E17_84 : Int32 → Int32 → Int32 → Int32 → Int32 → St → Option (Int32 × St)} (hE17_84 : ∀ (y1 : Int32) (y2 : Int32) (y3 : Int32) (y4 : Int32) (y5 : Int32) (σ : St), Ab sy_vi κ 84 [sy_vr 61, sy_vi y1, sy_vi y2, sy_vi y3, sy_vi y4, sy_vi y5, none] [] σ (E17_84 y1 y2 y3 y4 y5 σ)) : ∀ (n : Nat) (x5 : Int32) (x6 : Int32) (x7 : Int32) (x8 : Int32) (x9 : Int32) (x10 : Int32) (σ : St), Ab sy_vi κ 17 [sy_vr 61, sy_vi x5, sy_vi x6, sy_vi x7, sy_vi x8, sy_vi x9, sy_vi x10] [] σ (m7_alike_L17  E17_84 n x5 x6 x7 x8 x9 x10 σ) := by
  intro n
  induction n with
  | zero => intros; exact ab_none
  | succ n ih => exact fun x5 x6 x7 x8 x9 x10 σ => m7_alike_L17b_ok hκ   ih hE17_84 x5 x6 x7 x8 x9 x10 σ
def m7_alike_L5b (K5 : Int32 → Int32 → Int32 → Int32 → St → Option (Int32 × St)) (E5_97 : Int32 → St → Option (Int32 × St)) (x1 : Int32) (x2 : Int32) (x3 : Int32) (x4 : Int32) (σ : St) : Option (Int32 × St) := if 4 ≤ x4 then (E5_97 x3 σ) else (m7_alike_L17 (fun y19 y20 y21 y22 y23 σ24 => sy_bd (m7_greater y23 y21 σ24) (fun r26 σ25 => K5 y19 y20 r26 (y22 + 1) σ25)) sy_FU x1 x2 x3 x4 0 0 σ)
def m7_alike_L5 (E5_97 : Int32 → St → Option (Int32 × St)) : Nat → Int32 → Int32 → Int32 → Int32 → St → Option (Int32 × St)
  | 0 => fun _ _ _ _ _ => none
  | n + 1 => m7_alike_L5b  (m7_alike_L5  E5_97 n) E5_97
set_option maxRecDepth 100000 in
set_option maxHeartbeats 4000000 in
theorem m7_alike_L5b_ok {κ : Kx} (hκ : Gd κ cX7_alike 7 RX7 (some .int) 1) {K5 : Int32 → Int32 → Int32 → Int32 → St → Option (Int32 × St)} (hK5 : ∀ (x1 : Int32) (x2 : Int32) (x3 : Int32) (x4 : Int32) (σ : St), Ab sy_vi κ 5 [sy_vr 61, sy_vi x1, sy_vi x2, sy_vi x3, sy_vi x4, none, none] [] σ (K5 x1 x2 x3 x4 σ)) {E5_97 : Int32 → St → Option (Int32 × St)} (hE5_97 : ∀ (y3 : Int32) (σ : St), Ab sy_vi κ 97 [none, none, none, sy_vi y3, none, none, none] [] σ (E5_97 y3 σ)) (x1 : Int32) (x2 : Int32) (x3 : Int32) (x4 : Int32) (σ : St) : Ab sy_vi κ 5 [sy_vr 61, sy_vi x1, sy_vi x2, sy_vi x3, sy_vi x4, none, none] [] σ (m7_alike_L5b  K5 E5_97 x1 x2 x3 x4 σ) := by
  unfold m7_alike_L5b
  refine ab_iload hκ dX7_alike_5 rfl ?_
  refine ab_iconst (v := 4) hκ dX7_alike_7 rfl ?_
  refine ab_icmp_ge (tgt := 97) hκ dX7_alike_8 rfl ?_ ?_
  · refine ab_fg (lv' := [none, none, none, sy_vi x3, none, none, none]) [0, 1, 2, 4] rfl ?_
    exact hE5_97 x3 σ
  · refine ab_iconst (v := 0) hκ dX7_alike_11 rfl ?_
    refine ab_istore (lv' := [sy_vr 61, sy_vi x1, sy_vi x2, sy_vi x3, sy_vi x4, sy_vi 0, none]) hκ dX7_alike_12 (by decide) rfl ?_
    refine ab_iconst (v := 0) hκ dX7_alike_14 rfl ?_
    refine ab_istore (lv' := [sy_vr 61, sy_vi x1, sy_vi x2, sy_vi x3, sy_vi x4, sy_vi 0, sy_vi 0]) hκ dX7_alike_15 (by decide) rfl ?_
    refine m7_alike_L17_ok hκ ?_ _ _ _ _ _ _ _ _
    · intro y19 y20 y21 y22 y23 σ24
      refine ab_iload hκ dX7_alike_84 rfl ?_
      refine ab_iload_n hκ dX7_alike_86 rfl ?_
      refine ab_cSi (vs := [.int y23, .int y21]) (st := []) hκ dX7_alike_87 kl_RX7_228 ki_X7_greater kv_X7_greater (m7_greater_ok y23 y21 σ24) rfl (by decide) (Nat.le_of_ble_eq_true rfl) rfl (fun r26 σ25 => ?_)
      refine ab_istore_n (lv' := [sy_vr 61, sy_vi y19, sy_vi y20, sy_vi r26, sy_vi y22, sy_vi y23, none]) hκ dX7_alike_90 rfl (by decide) rfl ?_
      refine ab_iinc (v := (y22 + 1)) (lv' := [sy_vr 61, sy_vi y19, sy_vi y20, sy_vi r26, sy_vi (y22 + 1), sy_vi y23, none]) hκ dX7_alike_91 rfl rfl (by decide) rfl ?_
      refine ab_goto (tgt := 5) hκ dX7_alike_94 rfl ?_
      refine ab_fg (lv' := [sy_vr 61, sy_vi y19, sy_vi y20, sy_vi r26, sy_vi (y22 + 1), none, none]) [5] rfl ?_
      exact hK5 y19 y20 r26 (y22 + 1) σ25
theorem m7_alike_L5_ok {κ : Kx} (hκ : Gd κ cX7_alike 7 RX7 (some .int) 1) {E5_97 : Int32 → St → Option (Int32 × St)} (hE5_97 : ∀ (y3 : Int32) (σ : St), Ab sy_vi κ 97 [none, none, none, sy_vi y3, none, none, none] [] σ (E5_97 y3 σ)) : ∀ (n : Nat) (x1 : Int32) (x2 : Int32) (x3 : Int32) (x4 : Int32) (σ : St), Ab sy_vi κ 5 [sy_vr 61, sy_vi x1, sy_vi x2, sy_vi x3, sy_vi x4, none, none] [] σ (m7_alike_L5  E5_97 n x1 x2 x3 x4 σ) := by
  intro n
  induction n with
  | zero => intros; exact ab_none
  | succ n ih => exact fun x1 x2 x3 x4 σ => m7_alike_L5b_ok hκ   ih hE5_97 x1 x2 x3 x4 σ
def m7_alike (a1 : Int32) (a2 : Int32) (σ : St) : Option (Int32 × St) := m7_alike_L5 (fun y27 σ28 => some (y27, σ28)) sy_FU a1 a2 0 0 σ
set_option maxRecDepth 100000 in
set_option maxHeartbeats 4000000 in
theorem m7_alike_ok (a1 : Int32) (a2 : Int32) (σ : St) : Cok sy_vi yX7_alike cX7_alike 7 (some .int) 1 [.ref 61, .int a1, .int a2] σ (m7_alike a1 a2 σ) := by
  refine cok_of (own := RX7) (by decide) rfl (fun ad => Nat.le_of_ble_eq_true rfl) (fun κ hκ => ?_)
  show Ab sy_vi κ 0 [sy_vr 61, sy_vi a1, sy_vi a2, none, none, none, none] [] σ (m7_alike a1 a2 σ)
  unfold m7_alike
  refine ab_iconst (v := 0) hκ dX7_alike_0 rfl ?_
  refine ab_istore_n (lv' := [sy_vr 61, sy_vi a1, sy_vi a2, sy_vi 0, none, none, none]) hκ dX7_alike_1 rfl (by decide) rfl ?_
  refine ab_iconst (v := 0) hκ dX7_alike_2 rfl ?_
  refine ab_istore (lv' := [sy_vr 61, sy_vi a1, sy_vi a2, sy_vi 0, sy_vi 0, none, none]) hκ dX7_alike_3 (by decide) rfl ?_
  refine m7_alike_L5_ok hκ ?_ _ _ _ _ _ _
  · intro y27 σ28
    refine ab_iload_n hκ dX7_alike_97 rfl ?_
    exact ab_iret hκ dX7_alike_98
-- BreathBandModel.askOf(I)I, depth 7
def m7_askOf_L22b (K22 : Int32 → Int32 → Int32 → St → Option (Int32 × St)) (E22_60 : Int32 → St → Option (Int32 × St)) (x3 : Int32) (x4 : Int32) (x5 : Int32) (σ : St) : Option (Int32 × St) := if (σ 61 9) ≤ x5 then (E22_60 x4 σ) else (sy_bd (m7_alike x3 x5 σ) (fun r7 σ6 => sy_bd (m7_alike x3 x4 σ6) (fun r9 σ8 => if r9 ≤ r7 then (K22 x3 x4 (x5 + 1) σ8) else (K22 x3 x5 (x5 + 1) σ8))))
def m7_askOf_L22 (E22_60 : Int32 → St → Option (Int32 × St)) : Nat → Int32 → Int32 → Int32 → St → Option (Int32 × St)
  | 0 => fun _ _ _ _ => none
  | n + 1 => m7_askOf_L22b  (m7_askOf_L22  E22_60 n) E22_60
set_option maxRecDepth 100000 in
set_option maxHeartbeats 4000000 in
theorem m7_askOf_L22b_ok {κ : Kx} (hκ : Gd κ cX7_askOf 5 RX7 (some .int) 7) {K22 : Int32 → Int32 → Int32 → St → Option (Int32 × St)} (hK22 : ∀ (x3 : Int32) (x4 : Int32) (x5 : Int32) (σ : St), Ab sy_vi κ 22 [sy_vr 61, none, sy_vi x3, sy_vi x4, sy_vi x5] [] σ (K22 x3 x4 x5 σ)) {E22_60 : Int32 → St → Option (Int32 × St)} (hE22_60 : ∀ (y3 : Int32) (σ : St), Ab sy_vi κ 60 [none, none, none, sy_vi y3, none] [] σ (E22_60 y3 σ)) (x3 : Int32) (x4 : Int32) (x5 : Int32) (σ : St) : Ab sy_vi κ 22 [sy_vr 61, none, sy_vi x3, sy_vi x4, sy_vi x5] [] σ (m7_askOf_L22b  K22 E22_60 x3 x4 x5 σ) := by
  unfold m7_askOf_L22b
  refine ab_iload hκ dX7_askOf_22 rfl ?_
  refine ab_aload_n hκ dX7_askOf_24 rfl ?_
  refine ab_getf (v := .int (σ 61 9)) hκ (sy_o7 rfl) kf_RX7_124 rfl dX7_askOf_25 rfl ?_
  refine ab_icmp_ge (tgt := 60) hκ dX7_askOf_28 rfl ?_ ?_
  · refine ab_fg (lv' := [none, none, none, sy_vi x4, none]) [0, 2, 4] rfl ?_
    exact hE22_60 x4 σ
  · refine ab_aload_n hκ dX7_askOf_31 rfl ?_
    refine ab_iload_n hκ dX7_askOf_32 rfl ?_
    refine ab_iload hκ dX7_askOf_33 rfl ?_
    refine ab_cVi (vs := [.int x3, .int x5]) (st := []) hκ dX7_askOf_35 kl_RX7_270 ki_X7_alike kv_X7_alike (sy_o7 rfl) rfl rfl (m7_alike_ok x3 x5 σ) rfl (by decide) (Nat.le_of_ble_eq_true rfl) rfl (fun r7 σ6 => ?_)
    refine ab_aload_n hκ dX7_askOf_38 rfl ?_
    refine ab_iload_n hκ dX7_askOf_39 rfl ?_
    refine ab_iload_n hκ dX7_askOf_40 rfl ?_
    refine ab_cVi (vs := [.int x3, .int x4]) (st := [.int r7]) hκ dX7_askOf_41 kl_RX7_270 ki_X7_alike kv_X7_alike (sy_o7 rfl) rfl rfl (m7_alike_ok x3 x4 σ6) rfl (by decide) (Nat.le_of_ble_eq_true rfl) rfl (fun r9 σ8 => ?_)
    refine ab_icmp_ge (tgt := 52) hκ dX7_askOf_44 rfl ?_ ?_
    · refine ab_iload_n hκ dX7_askOf_52 rfl ?_
      refine ab_istore_n (lv' := [sy_vr 61, none, sy_vi x3, sy_vi x4, sy_vi x5]) hκ dX7_askOf_53 rfl (by decide) rfl ?_
      refine ab_iinc (v := (x5 + 1)) (lv' := [sy_vr 61, none, sy_vi x3, sy_vi x4, sy_vi (x5 + 1)]) hκ dX7_askOf_54 rfl rfl (by decide) rfl ?_
      refine ab_goto (tgt := 22) hκ dX7_askOf_57 rfl ?_
      exact hK22 x3 x4 (x5 + 1) σ8
    · refine ab_iload hκ dX7_askOf_47 rfl ?_
      refine ab_goto (tgt := 53) hκ dX7_askOf_49 rfl ?_
      refine ab_istore_n (lv' := [sy_vr 61, none, sy_vi x3, sy_vi x5, sy_vi x5]) hκ dX7_askOf_53 rfl (by decide) rfl ?_
      refine ab_iinc (v := (x5 + 1)) (lv' := [sy_vr 61, none, sy_vi x3, sy_vi x5, sy_vi (x5 + 1)]) hκ dX7_askOf_54 rfl rfl (by decide) rfl ?_
      refine ab_goto (tgt := 22) hκ dX7_askOf_57 rfl ?_
      exact hK22 x3 x5 (x5 + 1) σ8
theorem m7_askOf_L22_ok {κ : Kx} (hκ : Gd κ cX7_askOf 5 RX7 (some .int) 7) {E22_60 : Int32 → St → Option (Int32 × St)} (hE22_60 : ∀ (y3 : Int32) (σ : St), Ab sy_vi κ 60 [none, none, none, sy_vi y3, none] [] σ (E22_60 y3 σ)) : ∀ (n : Nat) (x3 : Int32) (x4 : Int32) (x5 : Int32) (σ : St), Ab sy_vi κ 22 [sy_vr 61, none, sy_vi x3, sy_vi x4, sy_vi x5] [] σ (m7_askOf_L22  E22_60 n x3 x4 x5 σ) := by
  intro n
  induction n with
  | zero => intros; exact ab_none
  | succ n ih => exact fun x3 x4 x5 σ => m7_askOf_L22b_ok hκ   ih hE22_60 x3 x4 x5 σ
def m7_askOf (a1 : Int32) (σ : St) : Option (Int32 × St) := sy_bd (m7_wasteOf a1 σ) (fun r2 σ1 => if (σ1 61 9) ≤ 0 then (m7_askOf_L22 (fun y10 σ11 => some (y10, σ11)) sy_FU r2 (-1) 1 σ1) else (m7_askOf_L22 (fun y12 σ13 => some (y12, σ13)) sy_FU r2 0 1 σ1))
set_option maxRecDepth 100000 in
set_option maxHeartbeats 4000000 in
theorem m7_askOf_ok (a1 : Int32) (σ : St) : Cok sy_vi yX7_askOf cX7_askOf 5 (some .int) 7 [.ref 61, .int a1] σ (m7_askOf a1 σ) := by
  refine cok_of (own := RX7) (by decide) rfl (fun ad => Nat.le_of_ble_eq_true rfl) (fun κ hκ => ?_)
  show Ab sy_vi κ 0 [sy_vr 61, sy_vi a1, none, none, none] [] σ (m7_askOf a1 σ)
  unfold m7_askOf
  refine ab_aload_n hκ dX7_askOf_0 rfl ?_
  refine ab_iload_n hκ dX7_askOf_1 rfl ?_
  refine ab_cVi (vs := [.int a1]) (st := []) hκ dX7_askOf_2 kl_RX7_261 ki_X7_wasteOf kv_X7_wasteOf (sy_o7 rfl) rfl rfl (m7_wasteOf_ok a1 σ) rfl (by decide) (Nat.le_of_ble_eq_true rfl) rfl (fun r2 σ1 => ?_)
  refine ab_istore_n (lv' := [sy_vr 61, sy_vi a1, sy_vi r2, none, none]) hκ dX7_askOf_5 rfl (by decide) rfl ?_
  refine ab_aload_n hκ dX7_askOf_6 rfl ?_
  refine ab_getf (v := .int (σ1 61 9)) hκ (sy_o7 rfl) kf_RX7_124 rfl dX7_askOf_7 rfl ?_
  refine ab_if_le (tgt := 17) hκ dX7_askOf_10 rfl ?_ ?_
  · refine ab_iconst (v := (-1)) hκ dX7_askOf_17 rfl ?_
    refine ab_istore_n (lv' := [sy_vr 61, sy_vi a1, sy_vi r2, sy_vi (-1), none]) hκ dX7_askOf_18 rfl (by decide) rfl ?_
    refine ab_iconst (v := 1) hκ dX7_askOf_19 rfl ?_
    refine ab_istore (lv' := [sy_vr 61, sy_vi a1, sy_vi r2, sy_vi (-1), sy_vi 1]) hκ dX7_askOf_20 (by decide) rfl ?_
    refine ab_fg (lv' := [sy_vr 61, none, sy_vi r2, sy_vi (-1), sy_vi 1]) [1] rfl ?_
    refine m7_askOf_L22_ok hκ ?_ _ _ _ _ _
    · intro y10 σ11
      refine ab_iload_n hκ dX7_askOf_60 rfl ?_
      exact ab_iret hκ dX7_askOf_61
  · refine ab_iconst (v := 0) hκ dX7_askOf_13 rfl ?_
    refine ab_goto (tgt := 18) hκ dX7_askOf_14 rfl ?_
    refine ab_istore_n (lv' := [sy_vr 61, sy_vi a1, sy_vi r2, sy_vi 0, none]) hκ dX7_askOf_18 rfl (by decide) rfl ?_
    refine ab_iconst (v := 1) hκ dX7_askOf_19 rfl ?_
    refine ab_istore (lv' := [sy_vr 61, sy_vi a1, sy_vi r2, sy_vi 0, sy_vi 1]) hκ dX7_askOf_20 (by decide) rfl ?_
    refine ab_fg (lv' := [sy_vr 61, none, sy_vi r2, sy_vi 0, sy_vi 1]) [1] rfl ?_
    refine m7_askOf_L22_ok hκ ?_ _ _ _ _ _
    · intro y12 σ13
      refine ab_iload_n hκ dX7_askOf_60 rfl ?_
      exact ab_iret hκ dX7_askOf_61
-- BreathBandModel.ask(I)I, depth 8
def m7_ask (a1 : Int32) (σ : St) : Option (Int32 × St) := sy_bd (m7_find σ) (fun _ σ1 => sy_bd (m7_isPlayer a1 σ1) (fun r3 σ2 => if r3 = 0 then (some ((-2), σ2)) else (sy_bd (m7_askOf a1 σ2) (fun r5 σ4 => some (r5, σ4)))))
set_option maxRecDepth 100000 in
set_option maxHeartbeats 4000000 in
theorem m7_ask_ok (a1 : Int32) (σ : St) : Cok sy_vi yX7_ask cX7_ask 2 (some .int) 8 [.ref 61, .int a1] σ (m7_ask a1 σ) := by
  refine cok_of (own := RX7) (by decide) rfl (fun ad => Nat.le_of_ble_eq_true rfl) (fun κ hκ => ?_)
  show Ab sy_vi κ 0 [sy_vr 61, sy_vi a1] [] σ (m7_ask a1 σ)
  unfold m7_ask
  refine ab_aload_n hκ dX7_ask_0 rfl ?_
  refine ab_cVv (vs := []) (st := []) hκ dX7_ask_1 kl_RX7_204 ki_X7_find kv_X7_find (sy_o7 rfl) rfl rfl (m7_find_ok σ) rfl (by decide) (Nat.le_of_ble_eq_true rfl) rfl (fun _ σ1 => ?_)
  refine ab_aload_n hκ dX7_ask_4 rfl ?_
  refine ab_iload_n hκ dX7_ask_5 rfl ?_
  refine ab_cVi (vs := [.int a1]) (st := []) hκ dX7_ask_6 kl_RX7_142 ki_X7_isPlayer kv_X7_isPlayer (sy_o7 rfl) rfl rfl (m7_isPlayer_ok a1 σ1) rfl (by decide) (Nat.le_of_ble_eq_true rfl) rfl (fun r3 σ2 => ?_)
  refine ab_if_eq (tgt := 20) hκ dX7_ask_9 rfl ?_ ?_
  · refine ab_bipush (v := (-2)) hκ dX7_ask_20 rfl ?_
    exact ab_iret hκ dX7_ask_22
  · refine ab_aload_n hκ dX7_ask_12 rfl ?_
    refine ab_iload_n hκ dX7_ask_13 rfl ?_
    refine ab_cVi (vs := [.int a1]) (st := []) hκ dX7_ask_14 kl_RX7_273 ki_X7_askOf kv_X7_askOf (sy_o7 rfl) rfl rfl (m7_askOf_ok a1 σ2) rfl (by decide) (Nat.le_of_ble_eq_true rfl) rfl (fun r5 σ4 => ?_)
    refine ab_goto (tgt := 22) hκ dX7_ask_17 rfl ?_
    exact ab_iret hκ dX7_ask_22
-- BreathBandModel.part(JJI)J, depth 0
def m7_part_L6b (K6 : Int64 → Int64 → Int32 → Int64 → Int64 → St → Option (Int64 × St)) (E6_31 : Int64 → Int64 → Int32 → Int64 → St → Option (Int64 × St)) (x1 : Int64) (x2 : Int64) (x3 : Int32) (x4 : Int64) (x5 : Int64) (σ : St) : Option (Int64 × St) := if (lg_cmp x5 0) = 0 then (E6_31 x1 x2 x3 x4 σ) else (sy_dl x5 (sy_lt (x4 - x4 / x5 * x5) (fun v6 => K6 x1 x2 x3 x5 v6 σ)))
def m7_part_L6 (E6_31 : Int64 → Int64 → Int32 → Int64 → St → Option (Int64 × St)) : Nat → Int64 → Int64 → Int32 → Int64 → Int64 → St → Option (Int64 × St)
  | 0 => fun _ _ _ _ _ _ => none
  | n + 1 => m7_part_L6b  (m7_part_L6  E6_31 n) E6_31
set_option maxRecDepth 100000 in
set_option maxHeartbeats 4000000 in
theorem m7_part_L6b_ok {κ : Kx} (hκ : Gd κ cX7_part 11 RX7 (some .long) 0) {K6 : Int64 → Int64 → Int32 → Int64 → Int64 → St → Option (Int64 × St)} (hK6 : ∀ (x1 : Int64) (x2 : Int64) (x3 : Int32) (x4 : Int64) (x5 : Int64) (σ : St), Ab sy_vl κ 6 [sy_vl x1, none, sy_vl x2, none, sy_vi x3, sy_vl x4, none, sy_vl x5, none, none, none] [] σ (K6 x1 x2 x3 x4 x5 σ)) {E6_31 : Int64 → Int64 → Int32 → Int64 → St → Option (Int64 × St)} (hE6_31 : ∀ (y0 : Int64) (y2 : Int64) (y4 : Int32) (y5 : Int64) (σ : St), Ab sy_vl κ 31 [sy_vl y0, none, sy_vl y2, none, sy_vi y4, sy_vl y5, none, none, none, none, none] [] σ (E6_31 y0 y2 y4 y5 σ)) (x1 : Int64) (x2 : Int64) (x3 : Int32) (x4 : Int64) (x5 : Int64) (σ : St) : Ab sy_vl κ 6 [sy_vl x1, none, sy_vl x2, none, sy_vi x3, sy_vl x4, none, sy_vl x5, none, none, none] [] σ (m7_part_L6b  K6 E6_31 x1 x2 x3 x4 x5 σ) := by
  unfold m7_part_L6b
  refine ab_lload hκ dX7_part_6 rfl ?_
  refine ab_lconst (v := 0) hκ dX7_part_8 rfl ?_
  refine ab_lcmp hκ dX7_part_9 ?_
  refine ab_if_eq (tgt := 31) hκ dX7_part_10 rfl ?_ ?_
  · refine ab_fg (lv' := [sy_vl x1, none, sy_vl x2, none, sy_vi x3, sy_vl x4, none, none, none, none, none]) [7] rfl ?_
    exact hE6_31 x1 x2 x3 x4 σ
  · refine ab_lload hκ dX7_part_13 rfl ?_
    refine ab_lload hκ dX7_part_15 rfl ?_
    refine ab_lrem hκ dX7_part_17 ?_
    refine ab_ltl (fun v6 => ?_)
    refine ab_lstore (lv' := [sy_vl x1, none, sy_vl x2, none, sy_vi x3, sy_vl x4, none, sy_vl x5, none, sy_vl v6, none]) hκ dX7_part_18 (by decide) rfl ?_
    refine ab_lload hκ dX7_part_20 rfl ?_
    refine ab_lstore (lv' := [sy_vl x1, none, sy_vl x2, none, sy_vi x3, sy_vl x5, none, sy_vl x5, none, sy_vl v6, none]) hκ dX7_part_22 (by decide) rfl ?_
    refine ab_lload hκ dX7_part_24 rfl ?_
    refine ab_lstore (lv' := [sy_vl x1, none, sy_vl x2, none, sy_vi x3, sy_vl x5, none, sy_vl v6, none, sy_vl v6, none]) hκ dX7_part_26 (by decide) rfl ?_
    refine ab_goto (tgt := 6) hκ dX7_part_28 rfl ?_
    refine ab_fg (lv' := [sy_vl x1, none, sy_vl x2, none, sy_vi x3, sy_vl x5, none, sy_vl v6, none, none, none]) [9] rfl ?_
    exact hK6 x1 x2 x3 x5 v6 σ
theorem m7_part_L6_ok {κ : Kx} (hκ : Gd κ cX7_part 11 RX7 (some .long) 0) {E6_31 : Int64 → Int64 → Int32 → Int64 → St → Option (Int64 × St)} (hE6_31 : ∀ (y0 : Int64) (y2 : Int64) (y4 : Int32) (y5 : Int64) (σ : St), Ab sy_vl κ 31 [sy_vl y0, none, sy_vl y2, none, sy_vi y4, sy_vl y5, none, none, none, none, none] [] σ (E6_31 y0 y2 y4 y5 σ)) : ∀ (n : Nat) (x1 : Int64) (x2 : Int64) (x3 : Int32) (x4 : Int64) (x5 : Int64) (σ : St), Ab sy_vl κ 6 [sy_vl x1, none, sy_vl x2, none, sy_vi x3, sy_vl x4, none, sy_vl x5, none, none, none] [] σ (m7_part_L6  E6_31 n x1 x2 x3 x4 x5 σ) := by
  intro n
  induction n with
  | zero => intros; exact ab_none
  | succ n ih => exact fun x1 x2 x3 x4 x5 σ => m7_part_L6b_ok hκ   ih hE6_31 x1 x2 x3 x4 x5 σ
def m7_part (a1 : Int64) (a2 : Int64) (a3 : Int32) (σ : St) : Option (Int64 × St) := m7_part_L6 (fun y7 y8 y9 y10 σ11 => if y9 = 0 then (sy_dl y10 (some ((y7 / y10), σ11))) else (sy_dl y10 (some ((y8 / y10), σ11)))) sy_FU a1 a2 a3 a1 a2 σ
set_option maxRecDepth 100000 in
set_option maxHeartbeats 4000000 in
theorem m7_part_ok (a1 : Int64) (a2 : Int64) (a3 : Int32) (σ : St) : Cok sy_vl yX7_part cX7_part 11 (some .long) 0 [.long a1, .long a2, .int a3] σ (m7_part a1 a2 a3 σ) := by
  refine cok_of (own := RX7) (by decide) rfl (fun ad => Nat.le_of_ble_eq_true rfl) (fun κ hκ => ?_)
  show Ab sy_vl κ 0 [sy_vl a1, none, sy_vl a2, none, sy_vi a3, none, none, none, none, none, none] [] σ (m7_part a1 a2 a3 σ)
  unfold m7_part
  refine ab_lload_n hκ dX7_part_0 rfl ?_
  refine ab_lstore (lv' := [sy_vl a1, none, sy_vl a2, none, sy_vi a3, sy_vl a1, none, none, none, none, none]) hκ dX7_part_1 (by decide) rfl ?_
  refine ab_lload_n hκ dX7_part_3 rfl ?_
  refine ab_lstore (lv' := [sy_vl a1, none, sy_vl a2, none, sy_vi a3, sy_vl a1, none, sy_vl a2, none, none, none]) hκ dX7_part_4 (by decide) rfl ?_
  refine m7_part_L6_ok hκ ?_ _ _ _ _ _ _ _
  · intro y7 y8 y9 y10 σ11
    refine ab_iload hκ dX7_part_31 rfl ?_
    refine ab_if_ne (tgt := 40) hκ dX7_part_33 rfl ?_ ?_
    · refine ab_lload_n hκ dX7_part_40 rfl ?_
      refine ab_lload hκ dX7_part_41 rfl ?_
      refine ab_ldiv hκ dX7_part_43 ?_
      exact ab_lret hκ dX7_part_44
    · refine ab_lload_n hκ dX7_part_36 rfl ?_
      refine ab_goto (tgt := 41) hκ dX7_part_37 rfl ?_
      refine ab_lload hκ dX7_part_41 rfl ?_
      refine ab_ldiv hκ dX7_part_43 ?_
      exact ab_lret hκ dX7_part_44
-- BreathBandModel.chanceOf(III)J, depth 5
def m7_chanceOf_L46b (K46 : Int32 → Int32 → Int32 → Int64 → Int32 → Int64 → Int32 → St → Option (Int64 × St)) (E46_86 : Int32 → Int32 → Int32 → Int64 → Int32 → Int64 → St → Option (Int64 × St)) (x8 : Int32) (x9 : Int32) (x10 : Int32) (x11 : Int64) (x12 : Int32) (x13 : Int64) (x14 : Int32) (σ : St) : Option (Int64 × St) := if (σ 61 12) ≤ x14 then (E46_86 x8 x9 x10 x11 x12 x13 σ) else (sy_bd (m7_isIn x12 x14 σ) (fun r16 σ15 => if r16 = 0 then (sy_lt (x13 * (Int32.toInt64 x8)) (fun v17 => K46 x8 x9 x10 x11 x12 v17 (x14 + 1) σ15)) else (sy_lt (x13 * (Int32.toInt64 (16 - x8))) (fun v18 => K46 x8 x9 x10 x11 x12 v18 (x14 + 1) σ15))))
def m7_chanceOf_L46 (E46_86 : Int32 → Int32 → Int32 → Int64 → Int32 → Int64 → St → Option (Int64 × St)) : Nat → Int32 → Int32 → Int32 → Int64 → Int32 → Int64 → Int32 → St → Option (Int64 × St)
  | 0 => fun _ _ _ _ _ _ _ _ => none
  | n + 1 => m7_chanceOf_L46b  (m7_chanceOf_L46  E46_86 n) E46_86
set_option maxRecDepth 100000 in
set_option maxHeartbeats 4000000 in
theorem m7_chanceOf_L46b_ok {κ : Kx} (hκ : Gd κ cX7_chanceOf 10 RX7 (some .long) 5) {K46 : Int32 → Int32 → Int32 → Int64 → Int32 → Int64 → Int32 → St → Option (Int64 × St)} (hK46 : ∀ (x8 : Int32) (x9 : Int32) (x10 : Int32) (x11 : Int64) (x12 : Int32) (x13 : Int64) (x14 : Int32) (σ : St), Ab sy_vl κ 46 [sy_vr 61, sy_vi x8, sy_vi x9, sy_vi x10, sy_vl x11, none, sy_vi x12, sy_vl x13, none, sy_vi x14] [] σ (K46 x8 x9 x10 x11 x12 x13 x14 σ)) {E46_86 : Int32 → Int32 → Int32 → Int64 → Int32 → Int64 → St → Option (Int64 × St)} (hE46_86 : ∀ (y1 : Int32) (y2 : Int32) (y3 : Int32) (y4 : Int64) (y6 : Int32) (y7 : Int64) (σ : St), Ab sy_vl κ 86 [sy_vr 61, sy_vi y1, sy_vi y2, sy_vi y3, sy_vl y4, none, sy_vi y6, sy_vl y7, none, none] [] σ (E46_86 y1 y2 y3 y4 y6 y7 σ)) (x8 : Int32) (x9 : Int32) (x10 : Int32) (x11 : Int64) (x12 : Int32) (x13 : Int64) (x14 : Int32) (σ : St) : Ab sy_vl κ 46 [sy_vr 61, sy_vi x8, sy_vi x9, sy_vi x10, sy_vl x11, none, sy_vi x12, sy_vl x13, none, sy_vi x14] [] σ (m7_chanceOf_L46b  K46 E46_86 x8 x9 x10 x11 x12 x13 x14 σ) := by
  unfold m7_chanceOf_L46b
  refine ab_iload hκ dX7_chanceOf_46 rfl ?_
  refine ab_aload_n hκ dX7_chanceOf_48 rfl ?_
  refine ab_getf (v := .int (σ 61 12)) hκ (sy_o7 rfl) kf_RX7_155 rfl dX7_chanceOf_49 rfl ?_
  refine ab_icmp_ge (tgt := 86) hκ dX7_chanceOf_52 rfl ?_ ?_
  · refine ab_fg (lv' := [sy_vr 61, sy_vi x8, sy_vi x9, sy_vi x10, sy_vl x11, none, sy_vi x12, sy_vl x13, none, none]) [9] rfl ?_
    exact hE46_86 x8 x9 x10 x11 x12 x13 σ
  · refine ab_lload hκ dX7_chanceOf_55 rfl ?_
    refine ab_iload hκ dX7_chanceOf_57 rfl ?_
    refine ab_iload hκ dX7_chanceOf_59 rfl ?_
    refine ab_cSi (vs := [.int x12, .int x14]) (st := [.long x13]) hκ dX7_chanceOf_61 kl_RX7_163 ki_X7_isIn kv_X7_isIn (m7_isIn_ok x12 x14 σ) rfl (by decide) (Nat.le_of_ble_eq_true rfl) rfl (fun r16 σ15 => ?_)
    refine ab_if_eq (tgt := 75) hκ dX7_chanceOf_64 rfl ?_ ?_
    · refine ab_iload_n hκ dX7_chanceOf_75 rfl ?_
      refine ab_i2l hκ dX7_chanceOf_76 ?_
      refine ab_lmul hκ dX7_chanceOf_77 ?_
      refine ab_ltl (fun v17 => ?_)
      refine ab_lstore (lv' := [sy_vr 61, sy_vi x8, sy_vi x9, sy_vi x10, sy_vl x11, none, sy_vi x12, sy_vl v17, none, sy_vi x14]) hκ dX7_chanceOf_78 (by decide) rfl ?_
      refine ab_iinc (v := (x14 + 1)) (lv' := [sy_vr 61, sy_vi x8, sy_vi x9, sy_vi x10, sy_vl x11, none, sy_vi x12, sy_vl v17, none, sy_vi (x14 + 1)]) hκ dX7_chanceOf_80 rfl rfl (by decide) rfl ?_
      refine ab_goto (tgt := 46) hκ dX7_chanceOf_83 rfl ?_
      exact hK46 x8 x9 x10 x11 x12 v17 (x14 + 1) σ15
    · refine ab_bipush (v := 16) hκ dX7_chanceOf_67 rfl ?_
      refine ab_iload_n hκ dX7_chanceOf_69 rfl ?_
      refine ab_isub hκ dX7_chanceOf_70 ?_
      refine ab_i2l hκ dX7_chanceOf_71 ?_
      refine ab_goto (tgt := 77) hκ dX7_chanceOf_72 rfl ?_
      refine ab_lmul hκ dX7_chanceOf_77 ?_
      refine ab_ltl (fun v18 => ?_)
      refine ab_lstore (lv' := [sy_vr 61, sy_vi x8, sy_vi x9, sy_vi x10, sy_vl x11, none, sy_vi x12, sy_vl v18, none, sy_vi x14]) hκ dX7_chanceOf_78 (by decide) rfl ?_
      refine ab_iinc (v := (x14 + 1)) (lv' := [sy_vr 61, sy_vi x8, sy_vi x9, sy_vi x10, sy_vl x11, none, sy_vi x12, sy_vl v18, none, sy_vi (x14 + 1)]) hκ dX7_chanceOf_80 rfl rfl (by decide) rfl ?_
      refine ab_goto (tgt := 46) hκ dX7_chanceOf_83 rfl ?_
      exact hK46 x8 x9 x10 x11 x12 v18 (x14 + 1) σ15
theorem m7_chanceOf_L46_ok {κ : Kx} (hκ : Gd κ cX7_chanceOf 10 RX7 (some .long) 5) {E46_86 : Int32 → Int32 → Int32 → Int64 → Int32 → Int64 → St → Option (Int64 × St)} (hE46_86 : ∀ (y1 : Int32) (y2 : Int32) (y3 : Int32) (y4 : Int64) (y6 : Int32) (y7 : Int64) (σ : St), Ab sy_vl κ 86 [sy_vr 61, sy_vi y1, sy_vi y2, sy_vi y3, sy_vl y4, none, sy_vi y6, sy_vl y7, none, none] [] σ (E46_86 y1 y2 y3 y4 y6 y7 σ)) : ∀ (n : Nat) (x8 : Int32) (x9 : Int32) (x10 : Int32) (x11 : Int64) (x12 : Int32) (x13 : Int64) (x14 : Int32) (σ : St), Ab sy_vl κ 46 [sy_vr 61, sy_vi x8, sy_vi x9, sy_vi x10, sy_vl x11, none, sy_vi x12, sy_vl x13, none, sy_vi x14] [] σ (m7_chanceOf_L46  E46_86 n x8 x9 x10 x11 x12 x13 x14 σ) := by
  intro n
  induction n with
  | zero => intros; exact ab_none
  | succ n ih => exact fun x8 x9 x10 x11 x12 x13 x14 σ => m7_chanceOf_L46b_ok hκ   ih hE46_86 x8 x9 x10 x11 x12 x13 x14 σ
def m7_chanceOf_L6b (K6 : Int32 → Int32 → Int32 → Int64 → Int32 → St → Option (Int64 × St)) (E6_99 : Int32 → Int64 → St → Option (Int64 × St)) (x1 : Int32) (x2 : Int32) (x3 : Int32) (x4 : Int64) (x5 : Int32) (σ : St) : Option (Int64 × St) := if (1 <<< ((σ 61 12) &&& 31)) ≤ x5 then (E6_99 x3 x4 σ) else (sy_lt (sy_sf σ 61 14 x5) (fun σ6 => sy_bd (m7_lives σ6) (fun _ σ7 => sy_gd x2 16 (if (σ7 74 (sy_ix x2)) ≤ 0 then (m7_chanceOf_L46 (fun y19 y20 y21 y22 y23 y24 σ25 => sy_lt (y22 + y24) (fun v26 => K6 y19 y20 y21 v26 (y23 + 1) σ25)) sy_FU x1 x2 x3 x4 x5 0 0 σ7) else (m7_chanceOf_L46 (fun y27 y28 y29 y30 y31 y32 σ33 => sy_lt (y30 + y32) (fun v34 => K6 y27 y28 y29 v34 (y31 + 1) σ33)) sy_FU x1 x2 x3 x4 x5 1 0 σ7)))))
def m7_chanceOf_L6 (E6_99 : Int32 → Int64 → St → Option (Int64 × St)) : Nat → Int32 → Int32 → Int32 → Int64 → Int32 → St → Option (Int64 × St)
  | 0 => fun _ _ _ _ _ _ => none
  | n + 1 => m7_chanceOf_L6b  (m7_chanceOf_L6  E6_99 n) E6_99
set_option maxRecDepth 100000 in
set_option maxHeartbeats 4000000 in
theorem m7_chanceOf_L6b_ok {κ : Kx} (hκ : Gd κ cX7_chanceOf 10 RX7 (some .long) 5) {K6 : Int32 → Int32 → Int32 → Int64 → Int32 → St → Option (Int64 × St)} (hK6 : ∀ (x1 : Int32) (x2 : Int32) (x3 : Int32) (x4 : Int64) (x5 : Int32) (σ : St), Ab sy_vl κ 6 [sy_vr 61, sy_vi x1, sy_vi x2, sy_vi x3, sy_vl x4, none, sy_vi x5, none, none, none] [] σ (K6 x1 x2 x3 x4 x5 σ)) {E6_99 : Int32 → Int64 → St → Option (Int64 × St)} (hE6_99 : ∀ (y3 : Int32) (y4 : Int64) (σ : St), Ab sy_vl κ 99 [sy_vr 61, none, none, sy_vi y3, sy_vl y4, none, none, none, none, none] [] σ (E6_99 y3 y4 σ)) (x1 : Int32) (x2 : Int32) (x3 : Int32) (x4 : Int64) (x5 : Int32) (σ : St) : Ab sy_vl κ 6 [sy_vr 61, sy_vi x1, sy_vi x2, sy_vi x3, sy_vl x4, none, sy_vi x5, none, none, none] [] σ (m7_chanceOf_L6b  K6 E6_99 x1 x2 x3 x4 x5 σ) := by
  unfold m7_chanceOf_L6b
  refine ab_iload hκ dX7_chanceOf_6 rfl ?_
  refine ab_iconst (v := 1) hκ dX7_chanceOf_8 rfl ?_
  refine ab_aload_n hκ dX7_chanceOf_9 rfl ?_
  refine ab_getf (v := .int (σ 61 12)) hκ (sy_o7 rfl) kf_RX7_155 rfl dX7_chanceOf_10 rfl ?_
  refine ab_ishl hκ dX7_chanceOf_13 ?_
  refine ab_icmp_ge (tgt := 99) hκ dX7_chanceOf_14 rfl ?_ ?_
  · refine ab_fg (lv' := [sy_vr 61, none, none, sy_vi x3, sy_vl x4, none, none, none, none, none]) [1, 2, 6] rfl ?_
    exact hE6_99 x3 x4 σ
  · refine ab_aload_n hκ dX7_chanceOf_17 rfl ?_
    refine ab_iload hκ dX7_chanceOf_18 rfl ?_
    refine ab_putf hκ (sy_o7 rfl) kp_RX7_160 rfl dX7_chanceOf_20 ?_
    refine ab_lts (fun σ6 => ?_)
    refine ab_aload_n hκ dX7_chanceOf_23 rfl ?_
    refine ab_cVv (vs := []) (st := []) hκ dX7_chanceOf_24 kl_RX7_201 ki_X7_lives kv_X7_lives (sy_o7 rfl) rfl rfl (m7_lives_ok σ6) rfl (by decide) (Nat.le_of_ble_eq_true rfl) rfl (fun _ σ7 => ?_)
    refine ab_aload_n hκ dX7_chanceOf_27 rfl ?_
    refine ab_getf (v := .ref 74) hκ (sy_o7 rfl) kf_RX7_46 rfl dX7_chanceOf_28 rfl ?_
    refine ab_iload_n hκ dX7_chanceOf_31 rfl ?_
    refine ab_iald hκ rfl dX7_chanceOf_32 ?_
    refine ab_if_le (tgt := 40) hκ dX7_chanceOf_33 rfl ?_ ?_
    · refine ab_lconst (v := 0) hκ dX7_chanceOf_40 rfl ?_
      refine ab_lstore (lv' := [sy_vr 61, sy_vi x1, sy_vi x2, sy_vi x3, sy_vl x4, none, sy_vi x5, sy_vl 0, none, none]) hκ dX7_chanceOf_41 (by decide) rfl ?_
      refine ab_iconst (v := 0) hκ dX7_chanceOf_43 rfl ?_
      refine ab_istore (lv' := [sy_vr 61, sy_vi x1, sy_vi x2, sy_vi x3, sy_vl x4, none, sy_vi x5, sy_vl 0, none, sy_vi 0]) hκ dX7_chanceOf_44 (by decide) rfl ?_
      refine m7_chanceOf_L46_ok hκ ?_ _ _ _ _ _ _ _ _ _
      · intro y19 y20 y21 y22 y23 y24 σ25
        refine ab_lload hκ dX7_chanceOf_86 rfl ?_
        refine ab_lload hκ dX7_chanceOf_88 rfl ?_
        refine ab_ladd hκ dX7_chanceOf_90 ?_
        refine ab_ltl (fun v26 => ?_)
        refine ab_lstore (lv' := [sy_vr 61, sy_vi y19, sy_vi y20, sy_vi y21, sy_vl v26, none, sy_vi y23, sy_vl y24, none, none]) hκ dX7_chanceOf_91 (by decide) rfl ?_
        refine ab_iinc (v := (y23 + 1)) (lv' := [sy_vr 61, sy_vi y19, sy_vi y20, sy_vi y21, sy_vl v26, none, sy_vi (y23 + 1), sy_vl y24, none, none]) hκ dX7_chanceOf_93 rfl rfl (by decide) rfl ?_
        refine ab_goto (tgt := 6) hκ dX7_chanceOf_96 rfl ?_
        refine ab_fg (lv' := [sy_vr 61, sy_vi y19, sy_vi y20, sy_vi y21, sy_vl v26, none, sy_vi (y23 + 1), none, none, none]) [7] rfl ?_
        exact hK6 y19 y20 y21 v26 (y23 + 1) σ25
    · refine ab_lconst (v := 1) hκ dX7_chanceOf_36 rfl ?_
      refine ab_goto (tgt := 41) hκ dX7_chanceOf_37 rfl ?_
      refine ab_lstore (lv' := [sy_vr 61, sy_vi x1, sy_vi x2, sy_vi x3, sy_vl x4, none, sy_vi x5, sy_vl 1, none, none]) hκ dX7_chanceOf_41 (by decide) rfl ?_
      refine ab_iconst (v := 0) hκ dX7_chanceOf_43 rfl ?_
      refine ab_istore (lv' := [sy_vr 61, sy_vi x1, sy_vi x2, sy_vi x3, sy_vl x4, none, sy_vi x5, sy_vl 1, none, sy_vi 0]) hκ dX7_chanceOf_44 (by decide) rfl ?_
      refine m7_chanceOf_L46_ok hκ ?_ _ _ _ _ _ _ _ _ _
      · intro y27 y28 y29 y30 y31 y32 σ33
        refine ab_lload hκ dX7_chanceOf_86 rfl ?_
        refine ab_lload hκ dX7_chanceOf_88 rfl ?_
        refine ab_ladd hκ dX7_chanceOf_90 ?_
        refine ab_ltl (fun v34 => ?_)
        refine ab_lstore (lv' := [sy_vr 61, sy_vi y27, sy_vi y28, sy_vi y29, sy_vl v34, none, sy_vi y31, sy_vl y32, none, none]) hκ dX7_chanceOf_91 (by decide) rfl ?_
        refine ab_iinc (v := (y31 + 1)) (lv' := [sy_vr 61, sy_vi y27, sy_vi y28, sy_vi y29, sy_vl v34, none, sy_vi (y31 + 1), sy_vl y32, none, none]) hκ dX7_chanceOf_93 rfl rfl (by decide) rfl ?_
        refine ab_goto (tgt := 6) hκ dX7_chanceOf_96 rfl ?_
        refine ab_fg (lv' := [sy_vr 61, sy_vi y27, sy_vi y28, sy_vi y29, sy_vl v34, none, sy_vi (y31 + 1), none, none, none]) [7] rfl ?_
        exact hK6 y27 y28 y29 v34 (y31 + 1) σ33
theorem m7_chanceOf_L6_ok {κ : Kx} (hκ : Gd κ cX7_chanceOf 10 RX7 (some .long) 5) {E6_99 : Int32 → Int64 → St → Option (Int64 × St)} (hE6_99 : ∀ (y3 : Int32) (y4 : Int64) (σ : St), Ab sy_vl κ 99 [sy_vr 61, none, none, sy_vi y3, sy_vl y4, none, none, none, none, none] [] σ (E6_99 y3 y4 σ)) : ∀ (n : Nat) (x1 : Int32) (x2 : Int32) (x3 : Int32) (x4 : Int64) (x5 : Int32) (σ : St), Ab sy_vl κ 6 [sy_vr 61, sy_vi x1, sy_vi x2, sy_vi x3, sy_vl x4, none, sy_vi x5, none, none, none] [] σ (m7_chanceOf_L6  E6_99 n x1 x2 x3 x4 x5 σ) := by
  intro n
  induction n with
  | zero => intros; exact ab_none
  | succ n ih => exact fun x1 x2 x3 x4 x5 σ => m7_chanceOf_L6b_ok hκ   ih hE6_99 x1 x2 x3 x4 x5 σ
def m7_chanceOf (a1 : Int32) (a2 : Int32) (a3 : Int32) (σ : St) : Option (Int64 × St) := m7_chanceOf_L6 (fun y35 y36 σ37 => sy_lt (sy_sf σ37 61 14 0) (fun σ38 => sy_bd (m7_part y36 (1 <<< (Int32.toInt64 (4 * (σ38 61 12)) &&& 63)) y35 σ38) (fun r40 σ39 => some (r40, σ39)))) sy_FU a1 a2 a3 0 0 σ
set_option maxRecDepth 100000 in
set_option maxHeartbeats 4000000 in
theorem m7_chanceOf_ok (a1 : Int32) (a2 : Int32) (a3 : Int32) (σ : St) : Cok sy_vl yX7_chanceOf cX7_chanceOf 10 (some .long) 5 [.ref 61, .int a1, .int a2, .int a3] σ (m7_chanceOf a1 a2 a3 σ) := by
  refine cok_of (own := RX7) (by decide) rfl (fun ad => Nat.le_of_ble_eq_true rfl) (fun κ hκ => ?_)
  show Ab sy_vl κ 0 [sy_vr 61, sy_vi a1, sy_vi a2, sy_vi a3, none, none, none, none, none, none] [] σ (m7_chanceOf a1 a2 a3 σ)
  unfold m7_chanceOf
  refine ab_lconst (v := 0) hκ dX7_chanceOf_0 rfl ?_
  refine ab_lstore (lv' := [sy_vr 61, sy_vi a1, sy_vi a2, sy_vi a3, sy_vl 0, none, none, none, none, none]) hκ dX7_chanceOf_1 (by decide) rfl ?_
  refine ab_iconst (v := 0) hκ dX7_chanceOf_3 rfl ?_
  refine ab_istore (lv' := [sy_vr 61, sy_vi a1, sy_vi a2, sy_vi a3, sy_vl 0, none, sy_vi 0, none, none, none]) hκ dX7_chanceOf_4 (by decide) rfl ?_
  refine m7_chanceOf_L6_ok hκ ?_ _ _ _ _ _ _ _
  · intro y35 y36 σ37
    refine ab_aload_n hκ dX7_chanceOf_99 rfl ?_
    refine ab_iconst (v := 0) hκ dX7_chanceOf_100 rfl ?_
    refine ab_putf hκ (sy_o7 rfl) kp_RX7_160 rfl dX7_chanceOf_101 ?_
    refine ab_lts (fun σ38 => ?_)
    refine ab_lload hκ dX7_chanceOf_104 rfl ?_
    refine ab_lconst (v := 1) hκ dX7_chanceOf_106 rfl ?_
    refine ab_iconst (v := 4) hκ dX7_chanceOf_107 rfl ?_
    refine ab_aload_n hκ dX7_chanceOf_108 rfl ?_
    refine ab_getf (v := .int (σ38 61 12)) hκ (sy_o7 rfl) kf_RX7_155 rfl dX7_chanceOf_109 rfl ?_
    refine ab_imul hκ dX7_chanceOf_112 ?_
    refine ab_lshl hκ dX7_chanceOf_113 ?_
    refine ab_iload_n hκ dX7_chanceOf_114 rfl ?_
    refine ab_cSl (vs := [.long y36, .long (1 <<< (Int32.toInt64 (4 * (σ38 61 12)) &&& 63)), .int y35]) (st := []) hκ dX7_chanceOf_115 kl_RX7_276 ki_X7_part kv_X7_part (m7_part_ok y36 (1 <<< (Int32.toInt64 (4 * (σ38 61 12)) &&& 63)) y35 σ38) rfl (by decide) (Nat.le_of_ble_eq_true rfl) rfl (fun r40 σ39 => ?_)
    exact ab_lret hκ dX7_chanceOf_118
-- BreathBandModel.no(I)J, depth 0
def m7_no (a1 : Int32) (σ : St) : Option (Int64 × St) := some (((-9223372036854775808) - (Int32.toInt64 a1)), σ)
set_option maxRecDepth 100000 in
set_option maxHeartbeats 4000000 in
theorem m7_no_ok (a1 : Int32) (σ : St) : Cok sy_vl yX7_no cX7_no 1 (some .long) 0 [.int a1] σ (m7_no a1 σ) := by
  refine cok_of (own := RX7) (by decide) rfl (fun ad => Nat.le_of_ble_eq_true rfl) (fun κ hκ => ?_)
  show Ab sy_vl κ 0 [sy_vi a1] [] σ (m7_no a1 σ)
  unfold m7_no
  refine ab_ldc2 hκ dX7_no_0 kn_RX7_74 ?_
  refine ab_iload_n hκ dX7_no_3 rfl ?_
  refine ab_i2l hκ dX7_no_4 ?_
  refine ab_lsub hκ dX7_no_5 ?_
  exact ab_lret hκ dX7_no_6
-- BreathBandModel.chance(III)J, depth 6
def m7_chance (a1 : Int32) (a2 : Int32) (a3 : Int32) (σ : St) : Option (Int64 × St) := sy_bd (m7_find σ) (fun _ σ1 => sy_bd (m7_in (Int32.toInt64 a1) 0 16 σ1) (fun r3 σ2 => if r3 = 0 then (sy_bd (m7_no (-2) σ2) (fun r5 σ4 => some (r5, σ4))) else (sy_bd (m7_isNote a2 σ2) (fun r7 σ6 => if r7 = 0 then (sy_bd (m7_no (-2) σ6) (fun r9 σ8 => some (r9, σ8))) else (sy_bd (m7_isTwo a3 σ6) (fun r11 σ10 => if r11 = 0 then (sy_bd (m7_no (-2) σ10) (fun r13 σ12 => some (r13, σ12))) else (sy_bd (m7_chanceOf a1 a2 a3 σ10) (fun r15 σ14 => some (r15, σ14)))))))))
set_option maxRecDepth 100000 in
set_option maxHeartbeats 4000000 in
theorem m7_chance_ok (a1 : Int32) (a2 : Int32) (a3 : Int32) (σ : St) : Cok sy_vl yX7_chance cX7_chance 4 (some .long) 6 [.ref 61, .int a1, .int a2, .int a3] σ (m7_chance a1 a2 a3 σ) := by
  refine cok_of (own := RX7) (by decide) rfl (fun ad => Nat.le_of_ble_eq_true rfl) (fun κ hκ => ?_)
  show Ab sy_vl κ 0 [sy_vr 61, sy_vi a1, sy_vi a2, sy_vi a3] [] σ (m7_chance a1 a2 a3 σ)
  unfold m7_chance
  refine ab_aload_n hκ dX7_chance_0 rfl ?_
  refine ab_cVv (vs := []) (st := []) hκ dX7_chance_1 kl_RX7_204 ki_X7_find kv_X7_find (sy_o7 rfl) rfl rfl (m7_find_ok σ) rfl (by decide) (Nat.le_of_ble_eq_true rfl) rfl (fun _ σ1 => ?_)
  refine ab_iload_n hκ dX7_chance_4 rfl ?_
  refine ab_i2l hκ dX7_chance_5 ?_
  refine ab_lconst (v := 0) hκ dX7_chance_6 rfl ?_
  refine ab_ldc2 hκ dX7_chance_7 kn_RX7_280 ?_
  refine ab_cSi (vs := [.long (Int32.toInt64 a1), .long 0, .long 16]) (st := []) hκ dX7_chance_10 kl_RX7_76 ki_X7_in kv_X7_in (m7_in_ok (Int32.toInt64 a1) 0 16 σ1) rfl (by decide) (Nat.le_of_ble_eq_true rfl) rfl (fun r3 σ2 => ?_)
  refine ab_if_eq (tgt := 41) hκ dX7_chance_13 rfl ?_ ?_
  · refine ab_bipush (v := (-2)) hκ dX7_chance_41 rfl ?_
    refine ab_cSl (vs := [.int (-2)]) (st := []) hκ dX7_chance_43 kl_RX7_286 ki_X7_no kv_X7_no (m7_no_ok (-2) σ2) rfl (by decide) (Nat.le_of_ble_eq_true rfl) rfl (fun r5 σ4 => ?_)
    exact ab_lret hκ dX7_chance_46
  · refine ab_aload_n hκ dX7_chance_16 rfl ?_
    refine ab_iload_n hκ dX7_chance_17 rfl ?_
    refine ab_cVi (vs := [.int a2]) (st := []) hκ dX7_chance_18 kl_RX7_210 ki_X7_isNote kv_X7_isNote (sy_o7 rfl) rfl rfl (m7_isNote_ok a2 σ2) rfl (by decide) (Nat.le_of_ble_eq_true rfl) rfl (fun r7 σ6 => ?_)
    refine ab_if_eq (tgt := 41) hκ dX7_chance_21 rfl ?_ ?_
    · refine ab_bipush (v := (-2)) hκ dX7_chance_41 rfl ?_
      refine ab_cSl (vs := [.int (-2)]) (st := []) hκ dX7_chance_43 kl_RX7_286 ki_X7_no kv_X7_no (m7_no_ok (-2) σ6) rfl (by decide) (Nat.le_of_ble_eq_true rfl) rfl (fun r9 σ8 => ?_)
      exact ab_lret hκ dX7_chance_46
    · refine ab_iload_n hκ dX7_chance_24 rfl ?_
      refine ab_cSi (vs := [.int a3]) (st := []) hκ dX7_chance_25 kl_RX7_104 ki_X7_isTwo kv_X7_isTwo (m7_isTwo_ok a3 σ6) rfl (by decide) (Nat.le_of_ble_eq_true rfl) rfl (fun r11 σ10 => ?_)
      refine ab_if_eq (tgt := 41) hκ dX7_chance_28 rfl ?_ ?_
      · refine ab_bipush (v := (-2)) hκ dX7_chance_41 rfl ?_
        refine ab_cSl (vs := [.int (-2)]) (st := []) hκ dX7_chance_43 kl_RX7_286 ki_X7_no kv_X7_no (m7_no_ok (-2) σ10) rfl (by decide) (Nat.le_of_ble_eq_true rfl) rfl (fun r13 σ12 => ?_)
        exact ab_lret hκ dX7_chance_46
      · refine ab_aload_n hκ dX7_chance_31 rfl ?_
        refine ab_iload_n hκ dX7_chance_32 rfl ?_
        refine ab_iload_n hκ dX7_chance_33 rfl ?_
        refine ab_iload_n hκ dX7_chance_34 rfl ?_
        refine ab_cVl (vs := [.int a1, .int a2, .int a3]) (st := []) hκ dX7_chance_35 kl_RX7_282 ki_X7_chanceOf kv_X7_chanceOf (sy_o7 rfl) rfl rfl (m7_chanceOf_ok a1 a2 a3 σ10) rfl (by decide) (Nat.le_of_ble_eq_true rfl) rfl (fun r15 σ14 => ?_)
        refine ab_goto (tgt := 46) hκ dX7_chance_38 rfl ?_
        exact ab_lret hκ dX7_chance_46
-- BreathBandModel.lot(I)I, depth 0
def m7_lot (a1 : Int32) (σ : St) : Option (Int32 × St) := sy_lt (sy_sf σ 61 31 ((1103515245 * (σ 61 31)) + 12345)) (fun σ1 => sy_dv a1 (some (((Int32.toUInt32 (σ1 61 31) >>> (Int32.toUInt32 16 &&& Int32.toUInt32 31)).toInt32 - (Int32.toUInt32 (σ1 61 31) >>> (Int32.toUInt32 16 &&& Int32.toUInt32 31)).toInt32 / a1 * a1), σ1)))
set_option maxRecDepth 100000 in
set_option maxHeartbeats 4000000 in
theorem m7_lot_ok (a1 : Int32) (σ : St) : Cok sy_vi yX7_lot cX7_lot 2 (some .int) 0 [.ref 61, .int a1] σ (m7_lot a1 σ) := by
  refine cok_of (own := RX7) (by decide) rfl (fun ad => Nat.le_of_ble_eq_true rfl) (fun κ hκ => ?_)
  show Ab sy_vi κ 0 [sy_vr 61, sy_vi a1] [] σ (m7_lot a1 σ)
  unfold m7_lot
  refine ab_aload_n hκ dX7_lot_0 rfl ?_
  refine ab_ldcw hκ dX7_lot_1 kn_RX7_290 ?_
  refine ab_aload_n hκ dX7_lot_4 rfl ?_
  refine ab_getf (v := .int (σ 61 31)) hκ (sy_o7 rfl) kf_RX7_291 rfl dX7_lot_5 rfl ?_
  refine ab_imul hκ dX7_lot_8 ?_
  refine ab_sipush (v := 12345) hκ dX7_lot_9 rfl ?_
  refine ab_iadd hκ dX7_lot_12 ?_
  refine ab_putf hκ (sy_o7 rfl) kp_RX7_291 rfl dX7_lot_13 ?_
  refine ab_lts (fun σ1 => ?_)
  refine ab_aload_n hκ dX7_lot_16 rfl ?_
  refine ab_getf (v := .int (σ1 61 31)) hκ (sy_o7 rfl) kf_RX7_291 rfl dX7_lot_17 rfl ?_
  refine ab_bipush (v := 16) hκ dX7_lot_20 rfl ?_
  refine ab_iushr hκ dX7_lot_22 ?_
  refine ab_iload_n hκ dX7_lot_23 rfl ?_
  refine ab_irem hκ dX7_lot_24 ?_
  exact ab_iret hκ dX7_lot_25
-- BreathBandModel.yearsOf(III)I, depth 5
def m7_yearsOf_L13b (K13 : Int32 → Int32 → Int32 → St → Option (Int32 × St)) (E13_76 : Int32 → St → Option (Int32 × St)) (x3 : Int32) (x4 : Int32) (x5 : Int32) (σ : St) : Option (Int32 × St) := if x3 ≤ x5 then (E13_76 x4 σ) else (if (σ 61 7) ≤ 0 then (E13_76 x4 σ) else (sy_bd (m7_lot 24 σ) (fun r7 σ6 => sy_gd (2 * x5) 32 (sy_lt (sy_sf σ6 69 (sy_ix (2 * x5)) r7) (fun σ8 => sy_bd (m7_lot (σ8 61 7) σ8) (fun r10 σ9 => sy_gd ((2 * x5) + 1) 32 (sy_lt (sy_sf σ9 69 (sy_ix ((2 * x5) + 1)) r10) (fun σ11 => sy_lt (sy_sf σ11 61 9 ((σ11 61 9) + 1)) (fun σ12 => K13 x3 x4 (x5 + 1) σ12)))))))))
def m7_yearsOf_L13 (E13_76 : Int32 → St → Option (Int32 × St)) : Nat → Int32 → Int32 → Int32 → St → Option (Int32 × St)
  | 0 => fun _ _ _ _ => none
  | n + 1 => m7_yearsOf_L13b  (m7_yearsOf_L13  E13_76 n) E13_76
set_option maxRecDepth 100000 in
set_option maxHeartbeats 4000000 in
theorem m7_yearsOf_L13b_ok {κ : Kx} (hκ : Gd κ cX7_yearsOf 5 RX7 (some .int) 5) {K13 : Int32 → Int32 → Int32 → St → Option (Int32 × St)} (hK13 : ∀ (x3 : Int32) (x4 : Int32) (x5 : Int32) (σ : St), Ab sy_vi κ 13 [sy_vr 61, none, sy_vi x3, sy_vi x4, sy_vi x5] [] σ (K13 x3 x4 x5 σ)) {E13_76 : Int32 → St → Option (Int32 × St)} (hE13_76 : ∀ (y3 : Int32) (σ : St), Ab sy_vi κ 76 [sy_vr 61, none, none, sy_vi y3, none] [] σ (E13_76 y3 σ)) (x3 : Int32) (x4 : Int32) (x5 : Int32) (σ : St) : Ab sy_vi κ 13 [sy_vr 61, none, sy_vi x3, sy_vi x4, sy_vi x5] [] σ (m7_yearsOf_L13b  K13 E13_76 x3 x4 x5 σ) := by
  unfold m7_yearsOf_L13b
  refine ab_iload hκ dX7_yearsOf_13 rfl ?_
  refine ab_iload_n hκ dX7_yearsOf_15 rfl ?_
  refine ab_icmp_ge (tgt := 76) hκ dX7_yearsOf_16 rfl ?_ ?_
  · refine ab_fg (lv' := [sy_vr 61, none, none, sy_vi x4, none]) [2, 4] rfl ?_
    exact hE13_76 x4 σ
  · refine ab_aload_n hκ dX7_yearsOf_19 rfl ?_
    refine ab_getf (v := .int (σ 61 7)) hκ (sy_o7 rfl) kf_RX7_113 rfl dX7_yearsOf_20 rfl ?_
    refine ab_if_le (tgt := 76) hκ dX7_yearsOf_23 rfl ?_ ?_
    · refine ab_fg (lv' := [sy_vr 61, none, none, sy_vi x4, none]) [2, 4] rfl ?_
      exact hE13_76 x4 σ
    · refine ab_aload_n hκ dX7_yearsOf_26 rfl ?_
      refine ab_getf (v := .ref 69) hκ (sy_o7 rfl) kf_RX7_31 rfl dX7_yearsOf_27 rfl ?_
      refine ab_iconst (v := 2) hκ dX7_yearsOf_30 rfl ?_
      refine ab_iload hκ dX7_yearsOf_31 rfl ?_
      refine ab_imul hκ dX7_yearsOf_33 ?_
      refine ab_aload_n hκ dX7_yearsOf_34 rfl ?_
      refine ab_bipush (v := 24) hκ dX7_yearsOf_35 rfl ?_
      refine ab_cVi (vs := [.int 24]) (st := [.int (2 * x5), .ref 69]) hκ dX7_yearsOf_37 kl_RX7_294 ki_X7_lot kv_X7_lot (sy_o7 rfl) rfl rfl (m7_lot_ok 24 σ) rfl (by decide) (Nat.le_of_ble_eq_true rfl) rfl (fun r7 σ6 => ?_)
      refine ab_iast hκ rfl dX7_yearsOf_40 ?_
      refine ab_lts (fun σ8 => ?_)
      refine ab_aload_n hκ dX7_yearsOf_41 rfl ?_
      refine ab_getf (v := .ref 69) hκ (sy_o7 rfl) kf_RX7_31 rfl dX7_yearsOf_42 rfl ?_
      refine ab_iconst (v := 2) hκ dX7_yearsOf_45 rfl ?_
      refine ab_iload hκ dX7_yearsOf_46 rfl ?_
      refine ab_imul hκ dX7_yearsOf_48 ?_
      refine ab_iconst (v := 1) hκ dX7_yearsOf_49 rfl ?_
      refine ab_iadd hκ dX7_yearsOf_50 ?_
      refine ab_aload_n hκ dX7_yearsOf_51 rfl ?_
      refine ab_aload_n hκ dX7_yearsOf_52 rfl ?_
      refine ab_getf (v := .int (σ8 61 7)) hκ (sy_o7 rfl) kf_RX7_113 rfl dX7_yearsOf_53 rfl ?_
      refine ab_cVi (vs := [.int (σ8 61 7)]) (st := [.int ((2 * x5) + 1), .ref 69]) hκ dX7_yearsOf_56 kl_RX7_294 ki_X7_lot kv_X7_lot (sy_o7 rfl) rfl rfl (m7_lot_ok (σ8 61 7) σ8) rfl (by decide) (Nat.le_of_ble_eq_true rfl) rfl (fun r10 σ9 => ?_)
      refine ab_iast hκ rfl dX7_yearsOf_59 ?_
      refine ab_lts (fun σ11 => ?_)
      refine ab_aload_n hκ dX7_yearsOf_60 rfl ?_
      refine ab_dupa hκ dX7_yearsOf_61 ?_
      refine ab_getf (v := .int (σ11 61 9)) hκ (sy_o7 rfl) kf_RX7_124 rfl dX7_yearsOf_62 rfl ?_
      refine ab_iconst (v := 1) hκ dX7_yearsOf_65 rfl ?_
      refine ab_iadd hκ dX7_yearsOf_66 ?_
      refine ab_putf hκ (sy_o7 rfl) kp_RX7_124 rfl dX7_yearsOf_67 ?_
      refine ab_lts (fun σ12 => ?_)
      refine ab_iinc (v := (x5 + 1)) (lv' := [sy_vr 61, none, sy_vi x3, sy_vi x4, sy_vi (x5 + 1)]) hκ dX7_yearsOf_70 rfl rfl (by decide) rfl ?_
      refine ab_goto (tgt := 13) hκ dX7_yearsOf_73 rfl ?_
      exact hK13 x3 x4 (x5 + 1) σ12
theorem m7_yearsOf_L13_ok {κ : Kx} (hκ : Gd κ cX7_yearsOf 5 RX7 (some .int) 5) {E13_76 : Int32 → St → Option (Int32 × St)} (hE13_76 : ∀ (y3 : Int32) (σ : St), Ab sy_vi κ 76 [sy_vr 61, none, none, sy_vi y3, none] [] σ (E13_76 y3 σ)) : ∀ (n : Nat) (x3 : Int32) (x4 : Int32) (x5 : Int32) (σ : St), Ab sy_vi κ 13 [sy_vr 61, none, sy_vi x3, sy_vi x4, sy_vi x5] [] σ (m7_yearsOf_L13  E13_76 n x3 x4 x5 σ) := by
  intro n
  induction n with
  | zero => intros; exact ab_none
  | succ n ih => exact fun x3 x4 x5 σ => m7_yearsOf_L13b_ok hκ   ih hE13_76 x3 x4 x5 σ
def m7_yearsOf_J76 (x15 : Int32)  (σ : St) : Option (Int32 × St) := sy_bd (m7_lives σ) (fun _ σ16 => sy_bd (m7_soundNow σ16) (fun r18 σ17 => sy_bd (m7_readsNotes σ17) (fun r20 σ19 => if x15 = 0 then (some (r18, σ19)) else (some ((σ19 61 17), σ19)))))
set_option maxRecDepth 100000 in
set_option maxHeartbeats 4000000 in
theorem m7_yearsOf_J76_ok {κ : Kx} (hκ : Gd κ cX7_yearsOf 5 RX7 (some .int) 5) (x15 : Int32) (σ : St) : Ab sy_vi κ 76 [sy_vr 61, none, none, sy_vi x15, none] [] σ (m7_yearsOf_J76 x15 σ) := by
  unfold m7_yearsOf_J76
  refine ab_aload_n hκ dX7_yearsOf_76 rfl ?_
  refine ab_cVv (vs := []) (st := []) hκ dX7_yearsOf_77 kl_RX7_201 ki_X7_lives kv_X7_lives (sy_o7 rfl) rfl rfl (m7_lives_ok σ) rfl (by decide) (Nat.le_of_ble_eq_true rfl) rfl (fun _ σ16 => ?_)
  refine ab_aload_n hκ dX7_yearsOf_80 rfl ?_
  refine ab_cVi (vs := []) (st := []) hκ dX7_yearsOf_81 kl_RX7_216 ki_X7_soundNow kv_X7_soundNow (sy_o7 rfl) rfl rfl (m7_soundNow_ok σ16) rfl (by decide) (Nat.le_of_ble_eq_true rfl) rfl (fun r18 σ17 => ?_)
  refine ab_istore (lv' := [sy_vr 61, none, none, sy_vi x15, sy_vi r18]) hκ dX7_yearsOf_84 (by decide) rfl ?_
  refine ab_aload_n hκ dX7_yearsOf_86 rfl ?_
  refine ab_cVi (vs := []) (st := []) hκ dX7_yearsOf_87 kl_RX7_134 ki_X7_readsNotes kv_X7_readsNotes (sy_o7 rfl) rfl rfl (m7_readsNotes_ok σ17) rfl (by decide) (Nat.le_of_ble_eq_true rfl) rfl (fun r20 σ19 => ?_)
  refine ab_popi hκ dX7_yearsOf_90 ?_
  refine ab_iload_n hκ dX7_yearsOf_91 rfl ?_
  refine ab_if_ne (tgt := 100) hκ dX7_yearsOf_92 rfl ?_ ?_
  · refine ab_aload_n hκ dX7_yearsOf_100 rfl ?_
    refine ab_getf (v := .int (σ19 61 17)) hκ (sy_o7 rfl) kf_RX7_173 rfl dX7_yearsOf_101 rfl ?_
    exact ab_iret hκ dX7_yearsOf_104
  · refine ab_iload hκ dX7_yearsOf_95 rfl ?_
    refine ab_goto (tgt := 104) hκ dX7_yearsOf_97 rfl ?_
    exact ab_iret hκ dX7_yearsOf_104
def m7_yearsOf (a1 : Int32) (a2 : Int32) (a3 : Int32) (σ : St) : Option (Int32 × St) := sy_lt (sy_sf σ 61 31 a1) (fun σ1 => sy_lt (sy_sf σ1 61 9 0) (fun σ2 => m7_yearsOf_L13 (fun y13 σ14 => m7_yearsOf_J76 y13 σ14) sy_FU a2 a3 0 σ2))
set_option maxRecDepth 100000 in
set_option maxHeartbeats 4000000 in
theorem m7_yearsOf_ok (a1 : Int32) (a2 : Int32) (a3 : Int32) (σ : St) : Cok sy_vi yX7_yearsOf cX7_yearsOf 5 (some .int) 5 [.ref 61, .int a1, .int a2, .int a3] σ (m7_yearsOf a1 a2 a3 σ) := by
  refine cok_of (own := RX7) (by decide) rfl (fun ad => Nat.le_of_ble_eq_true rfl) (fun κ hκ => ?_)
  show Ab sy_vi κ 0 [sy_vr 61, sy_vi a1, sy_vi a2, sy_vi a3, none] [] σ (m7_yearsOf a1 a2 a3 σ)
  unfold m7_yearsOf
  refine ab_aload_n hκ dX7_yearsOf_0 rfl ?_
  refine ab_iload_n hκ dX7_yearsOf_1 rfl ?_
  refine ab_putf hκ (sy_o7 rfl) kp_RX7_291 rfl dX7_yearsOf_2 ?_
  refine ab_lts (fun σ1 => ?_)
  refine ab_aload_n hκ dX7_yearsOf_5 rfl ?_
  refine ab_iconst (v := 0) hκ dX7_yearsOf_6 rfl ?_
  refine ab_putf hκ (sy_o7 rfl) kp_RX7_124 rfl dX7_yearsOf_7 ?_
  refine ab_lts (fun σ2 => ?_)
  refine ab_iconst (v := 0) hκ dX7_yearsOf_10 rfl ?_
  refine ab_istore (lv' := [sy_vr 61, sy_vi a1, sy_vi a2, sy_vi a3, sy_vi 0]) hκ dX7_yearsOf_11 (by decide) rfl ?_
  refine ab_fg (lv' := [sy_vr 61, none, sy_vi a2, sy_vi a3, sy_vi 0]) [1] rfl ?_
  refine m7_yearsOf_L13_ok hκ ?_ _ _ _ _ _
  · intro y13 σ14
    exact m7_yearsOf_J76_ok hκ y13 σ14
-- BreathBandModel.years(III)I, depth 6
def m7_years (a1 : Int32) (a2 : Int32) (a3 : Int32) (σ : St) : Option (Int32 × St) := sy_bd (m7_find σ) (fun _ σ1 => sy_bd (m7_in (Int32.toInt64 a2) 0 16 σ1) (fun r3 σ2 => if r3 = 0 then (some ((-2), σ2)) else (sy_bd (m7_isTwo a3 σ2) (fun r5 σ4 => if r5 = 0 then (some ((-2), σ4)) else (sy_bd (m7_yearsOf a1 a2 a3 σ4) (fun r7 σ6 => some (r7, σ6)))))))
set_option maxRecDepth 100000 in
set_option maxHeartbeats 4000000 in
theorem m7_years_ok (a1 : Int32) (a2 : Int32) (a3 : Int32) (σ : St) : Cok sy_vi yX7_years cX7_years 4 (some .int) 6 [.ref 61, .int a1, .int a2, .int a3] σ (m7_years a1 a2 a3 σ) := by
  refine cok_of (own := RX7) (by decide) rfl (fun ad => Nat.le_of_ble_eq_true rfl) (fun κ hκ => ?_)
  show Ab sy_vi κ 0 [sy_vr 61, sy_vi a1, sy_vi a2, sy_vi a3] [] σ (m7_years a1 a2 a3 σ)
  unfold m7_years
  refine ab_aload_n hκ dX7_years_0 rfl ?_
  refine ab_cVv (vs := []) (st := []) hκ dX7_years_1 kl_RX7_204 ki_X7_find kv_X7_find (sy_o7 rfl) rfl rfl (m7_find_ok σ) rfl (by decide) (Nat.le_of_ble_eq_true rfl) rfl (fun _ σ1 => ?_)
  refine ab_iload_n hκ dX7_years_4 rfl ?_
  refine ab_i2l hκ dX7_years_5 ?_
  refine ab_lconst (v := 0) hκ dX7_years_6 rfl ?_
  refine ab_ldc2 hκ dX7_years_7 kn_RX7_280 ?_
  refine ab_cSi (vs := [.long (Int32.toInt64 a2), .long 0, .long 16]) (st := []) hκ dX7_years_10 kl_RX7_76 ki_X7_in kv_X7_in (m7_in_ok (Int32.toInt64 a2) 0 16 σ1) rfl (by decide) (Nat.le_of_ble_eq_true rfl) rfl (fun r3 σ2 => ?_)
  refine ab_if_eq (tgt := 33) hκ dX7_years_13 rfl ?_ ?_
  · refine ab_bipush (v := (-2)) hκ dX7_years_33 rfl ?_
    exact ab_iret hκ dX7_years_35
  · refine ab_iload_n hκ dX7_years_16 rfl ?_
    refine ab_cSi (vs := [.int a3]) (st := []) hκ dX7_years_17 kl_RX7_104 ki_X7_isTwo kv_X7_isTwo (m7_isTwo_ok a3 σ2) rfl (by decide) (Nat.le_of_ble_eq_true rfl) rfl (fun r5 σ4 => ?_)
    refine ab_if_eq (tgt := 33) hκ dX7_years_20 rfl ?_ ?_
    · refine ab_bipush (v := (-2)) hκ dX7_years_33 rfl ?_
      exact ab_iret hκ dX7_years_35
    · refine ab_aload_n hκ dX7_years_23 rfl ?_
      refine ab_iload_n hκ dX7_years_24 rfl ?_
      refine ab_iload_n hκ dX7_years_25 rfl ?_
      refine ab_iload_n hκ dX7_years_26 rfl ?_
      refine ab_cVi (vs := [.int a1, .int a2, .int a3]) (st := []) hκ dX7_years_27 kl_RX7_297 ki_X7_yearsOf kv_X7_yearsOf (sy_o7 rfl) rfl rfl (m7_yearsOf_ok a1 a2 a3 σ4) rfl (by decide) (Nat.le_of_ble_eq_true rfl) rfl (fun r7 σ6 => ?_)
      refine ab_goto (tgt := 35) hκ dX7_years_30 rfl ?_
      exact ab_iret hκ dX7_years_35
-- BreathBandModel.sheet(III)I, depth 2
def m7_sheet_L55b (K55 : Int32 → Int32 → Int32 → St → Option (Int32 × St)) (E55_80 : Int32 → St → Option (Int32 × St)) (x7 : Int32) (x8 : Int32) (x9 : Int32) (σ : St) : Option (Int32 × St) := if x8 ≤ x9 then (E55_80 x8 σ) else (sy_gd ((60 * x7) + x9) 240 (sy_lt (sy_sf σ 64 (sy_ix ((60 * x7) + x9)) 0) (fun σ10 => K55 x7 x8 (x9 + 1) σ10)))
def m7_sheet_L55 (E55_80 : Int32 → St → Option (Int32 × St)) : Nat → Int32 → Int32 → Int32 → St → Option (Int32 × St)
  | 0 => fun _ _ _ _ => none
  | n + 1 => m7_sheet_L55b  (m7_sheet_L55  E55_80 n) E55_80
set_option maxRecDepth 100000 in
set_option maxHeartbeats 4000000 in
theorem m7_sheet_L55b_ok {κ : Kx} (hκ : Gd κ cX7_sheet 5 RX7 (some .int) 2) {K55 : Int32 → Int32 → Int32 → St → Option (Int32 × St)} (hK55 : ∀ (x7 : Int32) (x8 : Int32) (x9 : Int32) (σ : St), Ab sy_vi κ 55 [sy_vr 61, sy_vi x7, none, sy_vi x8, sy_vi x9] [] σ (K55 x7 x8 x9 σ)) {E55_80 : Int32 → St → Option (Int32 × St)} (hE55_80 : ∀ (y3 : Int32) (σ : St), Ab sy_vi κ 80 [none, none, none, sy_vi y3, none] [] σ (E55_80 y3 σ)) (x7 : Int32) (x8 : Int32) (x9 : Int32) (σ : St) : Ab sy_vi κ 55 [sy_vr 61, sy_vi x7, none, sy_vi x8, sy_vi x9] [] σ (m7_sheet_L55b  K55 E55_80 x7 x8 x9 σ) := by
  unfold m7_sheet_L55b
  refine ab_iload hκ dX7_sheet_55 rfl ?_
  refine ab_iload_n hκ dX7_sheet_57 rfl ?_
  refine ab_icmp_ge (tgt := 80) hκ dX7_sheet_58 rfl ?_ ?_
  · refine ab_fg (lv' := [none, none, none, sy_vi x8, none]) [0, 1, 4] rfl ?_
    exact hE55_80 x8 σ
  · refine ab_aload_n hκ dX7_sheet_61 rfl ?_
    refine ab_getf (v := .ref 64) hκ (sy_o7 rfl) kf_RX7_16 rfl dX7_sheet_62 rfl ?_
    refine ab_bipush (v := 60) hκ dX7_sheet_65 rfl ?_
    refine ab_iload_n hκ dX7_sheet_67 rfl ?_
    refine ab_imul hκ dX7_sheet_68 ?_
    refine ab_iload hκ dX7_sheet_69 rfl ?_
    refine ab_iadd hκ dX7_sheet_71 ?_
    refine ab_iconst (v := 0) hκ dX7_sheet_72 rfl ?_
    refine ab_iast hκ rfl dX7_sheet_73 ?_
    refine ab_lts (fun σ10 => ?_)
    refine ab_iinc (v := (x9 + 1)) (lv' := [sy_vr 61, sy_vi x7, none, sy_vi x8, sy_vi (x9 + 1)]) hκ dX7_sheet_74 rfl rfl (by decide) rfl ?_
    refine ab_goto (tgt := 55) hκ dX7_sheet_77 rfl ?_
    exact hK55 x7 x8 (x9 + 1) σ10
theorem m7_sheet_L55_ok {κ : Kx} (hκ : Gd κ cX7_sheet 5 RX7 (some .int) 2) {E55_80 : Int32 → St → Option (Int32 × St)} (hE55_80 : ∀ (y3 : Int32) (σ : St), Ab sy_vi κ 80 [none, none, none, sy_vi y3, none] [] σ (E55_80 y3 σ)) : ∀ (n : Nat) (x7 : Int32) (x8 : Int32) (x9 : Int32) (σ : St), Ab sy_vi κ 55 [sy_vr 61, sy_vi x7, none, sy_vi x8, sy_vi x9] [] σ (m7_sheet_L55  E55_80 n x7 x8 x9 σ) := by
  intro n
  induction n with
  | zero => intros; exact ab_none
  | succ n ih => exact fun x7 x8 x9 σ => m7_sheet_L55b_ok hκ   ih hE55_80 x7 x8 x9 σ
def m7_sheet (a1 : Int32) (a2 : Int32) (a3 : Int32) (σ : St) : Option (Int32 × St) := sy_bd (m7_isSheet a1 σ) (fun r2 σ1 => if r2 = 0 then (some ((-2), σ1)) else (sy_bd (m7_in (Int32.toInt64 a2) 0 2 σ1) (fun r4 σ3 => if r4 = 0 then (some ((-2), σ3)) else (if a3 ≤ 60 then (if 0 ≤ a3 then (sy_gd a1 4 (sy_lt (sy_sf σ3 62 (sy_ix a1) a2) (fun σ5 => sy_gd a1 4 (sy_lt (sy_sf σ5 63 (sy_ix a1) a3) (fun σ6 => m7_sheet_L55 (fun y11 σ12 => some (y11, σ12)) sy_FU a1 a3 0 σ6))))) else (sy_bd (m7_finds 5 σ3) (fun r14 σ13 => some (r14, σ13)))) else (some ((-2), σ3))))))
set_option maxRecDepth 100000 in
set_option maxHeartbeats 4000000 in
theorem m7_sheet_ok (a1 : Int32) (a2 : Int32) (a3 : Int32) (σ : St) : Cok sy_vi yX7_sheet cX7_sheet 5 (some .int) 2 [.ref 61, .int a1, .int a2, .int a3] σ (m7_sheet a1 a2 a3 σ) := by
  refine cok_of (own := RX7) (by decide) rfl (fun ad => Nat.le_of_ble_eq_true rfl) (fun κ hκ => ?_)
  show Ab sy_vi κ 0 [sy_vr 61, sy_vi a1, sy_vi a2, sy_vi a3, none] [] σ (m7_sheet a1 a2 a3 σ)
  unfold m7_sheet
  refine ab_iload_n hκ dX7_sheet_0 rfl ?_
  refine ab_cSi (vs := [.int a1]) (st := []) hκ dX7_sheet_1 kl_RX7_85 ki_X7_isSheet kv_X7_isSheet (m7_isSheet_ok a1 σ) rfl (by decide) (Nat.le_of_ble_eq_true rfl) rfl (fun r2 σ1 => ?_)
  refine ab_if_eq (tgt := 25) hκ dX7_sheet_4 rfl ?_ ?_
  · refine ab_bipush (v := (-2)) hκ dX7_sheet_25 rfl ?_
    exact ab_iret hκ dX7_sheet_27
  · refine ab_iload_n hκ dX7_sheet_7 rfl ?_
    refine ab_i2l hκ dX7_sheet_8 ?_
    refine ab_lconst (v := 0) hκ dX7_sheet_9 rfl ?_
    refine ab_ldc2 hκ dX7_sheet_10 kn_RX7_89 ?_
    refine ab_cSi (vs := [.long (Int32.toInt64 a2), .long 0, .long 2]) (st := []) hκ dX7_sheet_13 kl_RX7_76 ki_X7_in kv_X7_in (m7_in_ok (Int32.toInt64 a2) 0 2 σ1) rfl (by decide) (Nat.le_of_ble_eq_true rfl) rfl (fun r4 σ3 => ?_)
    refine ab_if_eq (tgt := 25) hκ dX7_sheet_16 rfl ?_ ?_
    · refine ab_bipush (v := (-2)) hκ dX7_sheet_25 rfl ?_
      exact ab_iret hκ dX7_sheet_27
    · refine ab_iload_n hκ dX7_sheet_19 rfl ?_
      refine ab_bipush (v := 60) hκ dX7_sheet_20 rfl ?_
      refine ab_icmp_le (tgt := 28) hκ dX7_sheet_22 rfl ?_ ?_
      · refine ab_iload_n hκ dX7_sheet_28 rfl ?_
        refine ab_if_ge (tgt := 38) hκ dX7_sheet_29 rfl ?_ ?_
        · refine ab_aload_n hκ dX7_sheet_38 rfl ?_
          refine ab_getf (v := .ref 62) hκ (sy_o7 rfl) kf_RX7_7 rfl dX7_sheet_39 rfl ?_
          refine ab_iload_n hκ dX7_sheet_42 rfl ?_
          refine ab_iload_n hκ dX7_sheet_43 rfl ?_
          refine ab_iast hκ rfl dX7_sheet_44 ?_
          refine ab_lts (fun σ5 => ?_)
          refine ab_aload_n hκ dX7_sheet_45 rfl ?_
          refine ab_getf (v := .ref 63) hκ (sy_o7 rfl) kf_RX7_13 rfl dX7_sheet_46 rfl ?_
          refine ab_iload_n hκ dX7_sheet_49 rfl ?_
          refine ab_iload_n hκ dX7_sheet_50 rfl ?_
          refine ab_iast hκ rfl dX7_sheet_51 ?_
          refine ab_lts (fun σ6 => ?_)
          refine ab_iconst (v := 0) hκ dX7_sheet_52 rfl ?_
          refine ab_istore (lv' := [sy_vr 61, sy_vi a1, sy_vi a2, sy_vi a3, sy_vi 0]) hκ dX7_sheet_53 (by decide) rfl ?_
          refine ab_fg (lv' := [sy_vr 61, sy_vi a1, none, sy_vi a3, sy_vi 0]) [2] rfl ?_
          refine m7_sheet_L55_ok hκ ?_ _ _ _ _ _
          · intro y11 σ12
            refine ab_iload_n hκ dX7_sheet_80 rfl ?_
            exact ab_iret hκ dX7_sheet_81
        · refine ab_aload_n hκ dX7_sheet_32 rfl ?_
          refine ab_iconst (v := 5) hκ dX7_sheet_33 rfl ?_
          refine ab_cVi (vs := [.int 5]) (st := []) hκ dX7_sheet_34 kl_RX7_91 ki_X7_finds kv_X7_finds (sy_o7 rfl) rfl rfl (m7_finds_ok 5 σ3) rfl (by decide) (Nat.le_of_ble_eq_true rfl) rfl (fun r14 σ13 => ?_)
          exact ab_iret hκ dX7_sheet_37
      · refine ab_bipush (v := (-2)) hκ dX7_sheet_25 rfl ?_
        exact ab_iret hκ dX7_sheet_27
-- BreathBandModel.lose(I)I, depth 2
def m7_lose (a1 : Int32) (σ : St) : Option (Int32 × St) := sy_bd (m7_isSheet a1 σ) (fun r2 σ1 => if r2 = 0 then (some ((-2), σ1)) else (sy_gd a1 4 (if 0 ≤ (σ1 62 (sy_ix a1)) then (sy_gd a1 4 (sy_lt (sy_sf σ1 62 (sy_ix a1) (-1)) (fun σ3 => sy_gd a1 4 (some ((σ3 63 (sy_ix a1)), σ3))))) else (sy_bd (m7_finds 1 σ1) (fun r5 σ4 => some (r5, σ4))))))
set_option maxRecDepth 100000 in
set_option maxHeartbeats 4000000 in
theorem m7_lose_ok (a1 : Int32) (σ : St) : Cok sy_vi yX7_lose cX7_lose 2 (some .int) 2 [.ref 61, .int a1] σ (m7_lose a1 σ) := by
  refine cok_of (own := RX7) (by decide) rfl (fun ad => Nat.le_of_ble_eq_true rfl) (fun κ hκ => ?_)
  show Ab sy_vi κ 0 [sy_vr 61, sy_vi a1] [] σ (m7_lose a1 σ)
  unfold m7_lose
  refine ab_iload_n hκ dX7_lose_0 rfl ?_
  refine ab_cSi (vs := [.int a1]) (st := []) hκ dX7_lose_1 kl_RX7_85 ki_X7_isSheet kv_X7_isSheet (m7_isSheet_ok a1 σ) rfl (by decide) (Nat.le_of_ble_eq_true rfl) rfl (fun r2 σ1 => ?_)
  refine ab_if_ne (tgt := 10) hκ dX7_lose_4 rfl ?_ ?_
  · refine ab_aload_n hκ dX7_lose_10 rfl ?_
    refine ab_getf (v := .ref 62) hκ (sy_o7 rfl) kf_RX7_7 rfl dX7_lose_11 rfl ?_
    refine ab_iload_n hκ dX7_lose_14 rfl ?_
    refine ab_iald hκ rfl dX7_lose_15 ?_
    refine ab_if_ge (tgt := 25) hκ dX7_lose_16 rfl ?_ ?_
    · refine ab_aload_n hκ dX7_lose_25 rfl ?_
      refine ab_getf (v := .ref 62) hκ (sy_o7 rfl) kf_RX7_7 rfl dX7_lose_26 rfl ?_
      refine ab_iload_n hκ dX7_lose_29 rfl ?_
      refine ab_iconst (v := (-1)) hκ dX7_lose_30 rfl ?_
      refine ab_iast hκ rfl dX7_lose_31 ?_
      refine ab_lts (fun σ3 => ?_)
      refine ab_aload_n hκ dX7_lose_32 rfl ?_
      refine ab_getf (v := .ref 63) hκ (sy_o7 rfl) kf_RX7_13 rfl dX7_lose_33 rfl ?_
      refine ab_iload_n hκ dX7_lose_36 rfl ?_
      refine ab_iald hκ rfl dX7_lose_37 ?_
      exact ab_iret hκ dX7_lose_38
    · refine ab_aload_n hκ dX7_lose_19 rfl ?_
      refine ab_iconst (v := 1) hκ dX7_lose_20 rfl ?_
      refine ab_cVi (vs := [.int 1]) (st := []) hκ dX7_lose_21 kl_RX7_91 ki_X7_finds kv_X7_finds (sy_o7 rfl) rfl rfl (m7_finds_ok 1 σ1) rfl (by decide) (Nat.le_of_ble_eq_true rfl) rfl (fun r5 σ4 => ?_)
      exact ab_iret hκ dX7_lose_24
  · refine ab_bipush (v := (-2)) hκ dX7_lose_7 rfl ?_
    exact ab_iret hκ dX7_lose_9
-- BreathBandModel.lacks(III)I, depth 1
def m7_lacks (a1 : Int32) (a2 : Int32) (a3 : Int32) (σ : St) : Option (Int32 × St) := sy_gd a1 4 (if 0 ≤ (σ 62 (sy_ix a1)) then (sy_gd a1 4 (if (σ 62 (sy_ix a1)) = a2 then (sy_gd a1 4 (sy_bd (m7_in (Int32.toInt64 a3) 0 (Int32.toInt64 ((σ 63 (sy_ix a1)) - 1)) σ) (fun r2 σ1 => if r2 = 0 then (sy_bd (m7_finds 2 σ1) (fun r4 σ3 => some (r4, σ3))) else (some (0, σ1))))) else (sy_bd (m7_finds 3 σ) (fun r6 σ5 => some (r6, σ5))))) else (sy_bd (m7_finds 1 σ) (fun r8 σ7 => some (r8, σ7))))
set_option maxRecDepth 100000 in
set_option maxHeartbeats 4000000 in
theorem m7_lacks_ok (a1 : Int32) (a2 : Int32) (a3 : Int32) (σ : St) : Cok sy_vi yX7_lacks cX7_lacks 4 (some .int) 1 [.ref 61, .int a1, .int a2, .int a3] σ (m7_lacks a1 a2 a3 σ) := by
  refine cok_of (own := RX7) (by decide) rfl (fun ad => Nat.le_of_ble_eq_true rfl) (fun κ hκ => ?_)
  show Ab sy_vi κ 0 [sy_vr 61, sy_vi a1, sy_vi a2, sy_vi a3] [] σ (m7_lacks a1 a2 a3 σ)
  unfold m7_lacks
  refine ab_aload_n hκ dX7_lacks_0 rfl ?_
  refine ab_getf (v := .ref 62) hκ (sy_o7 rfl) kf_RX7_7 rfl dX7_lacks_1 rfl ?_
  refine ab_iload_n hκ dX7_lacks_4 rfl ?_
  refine ab_iald hκ rfl dX7_lacks_5 ?_
  refine ab_if_ge (tgt := 15) hκ dX7_lacks_6 rfl ?_ ?_
  · refine ab_aload_n hκ dX7_lacks_15 rfl ?_
    refine ab_getf (v := .ref 62) hκ (sy_o7 rfl) kf_RX7_7 rfl dX7_lacks_16 rfl ?_
    refine ab_iload_n hκ dX7_lacks_19 rfl ?_
    refine ab_iald hκ rfl dX7_lacks_20 ?_
    refine ab_iload_n hκ dX7_lacks_21 rfl ?_
    refine ab_icmp_eq (tgt := 31) hκ dX7_lacks_22 rfl ?_ ?_
    · refine ab_iload_n hκ dX7_lacks_31 rfl ?_
      refine ab_i2l hκ dX7_lacks_32 ?_
      refine ab_lconst (v := 0) hκ dX7_lacks_33 rfl ?_
      refine ab_aload_n hκ dX7_lacks_34 rfl ?_
      refine ab_getf (v := .ref 63) hκ (sy_o7 rfl) kf_RX7_13 rfl dX7_lacks_35 rfl ?_
      refine ab_iload_n hκ dX7_lacks_38 rfl ?_
      refine ab_iald hκ rfl dX7_lacks_39 ?_
      refine ab_iconst (v := 1) hκ dX7_lacks_40 rfl ?_
      refine ab_isub hκ dX7_lacks_41 ?_
      refine ab_i2l hκ dX7_lacks_42 ?_
      refine ab_cSi (vs := [.long (Int32.toInt64 a3), .long 0, .long (Int32.toInt64 ((σ 63 (sy_ix a1)) - 1))]) (st := []) hκ dX7_lacks_43 kl_RX7_76 ki_X7_in kv_X7_in (m7_in_ok (Int32.toInt64 a3) 0 (Int32.toInt64 ((σ 63 (sy_ix a1)) - 1)) σ) rfl (by decide) (Nat.le_of_ble_eq_true rfl) rfl (fun r2 σ1 => ?_)
      refine ab_if_eq (tgt := 53) hκ dX7_lacks_46 rfl ?_ ?_
      · refine ab_aload_n hκ dX7_lacks_53 rfl ?_
        refine ab_iconst (v := 2) hκ dX7_lacks_54 rfl ?_
        refine ab_cVi (vs := [.int 2]) (st := []) hκ dX7_lacks_55 kl_RX7_91 ki_X7_finds kv_X7_finds (sy_o7 rfl) rfl rfl (m7_finds_ok 2 σ1) rfl (by decide) (Nat.le_of_ble_eq_true rfl) rfl (fun r4 σ3 => ?_)
        exact ab_iret hκ dX7_lacks_58
      · refine ab_iconst (v := 0) hκ dX7_lacks_49 rfl ?_
        refine ab_goto (tgt := 58) hκ dX7_lacks_50 rfl ?_
        exact ab_iret hκ dX7_lacks_58
    · refine ab_aload_n hκ dX7_lacks_25 rfl ?_
      refine ab_iconst (v := 3) hκ dX7_lacks_26 rfl ?_
      refine ab_cVi (vs := [.int 3]) (st := []) hκ dX7_lacks_27 kl_RX7_91 ki_X7_finds kv_X7_finds (sy_o7 rfl) rfl rfl (m7_finds_ok 3 σ) rfl (by decide) (Nat.le_of_ble_eq_true rfl) rfl (fun r6 σ5 => ?_)
      exact ab_iret hκ dX7_lacks_30
  · refine ab_aload_n hκ dX7_lacks_9 rfl ?_
    refine ab_iconst (v := 1) hκ dX7_lacks_10 rfl ?_
    refine ab_cVi (vs := [.int 1]) (st := []) hκ dX7_lacks_11 kl_RX7_91 ki_X7_finds kv_X7_finds (sy_o7 rfl) rfl rfl (m7_finds_ok 1 σ) rfl (by decide) (Nat.le_of_ble_eq_true rfl) rfl (fun r8 σ7 => ?_)
    exact ab_iret hκ dX7_lacks_14
-- BreathBandModel.cut(II)I, depth 0
def m7_cut (a1 : Int32) (a2 : Int32) (σ : St) : Option (Int32 × St) := if a1 = 0 then (some ((Int32.toInt8 a2).toInt32, σ)) else (if a1 = 1 then (some ((Int32.toInt16 a2).toInt32, σ)) else (some (a2, σ)))
set_option maxRecDepth 100000 in
set_option maxHeartbeats 4000000 in
theorem m7_cut_ok (a1 : Int32) (a2 : Int32) (σ : St) : Cok sy_vi yX7_cut cX7_cut 2 (some .int) 0 [.int a1, .int a2] σ (m7_cut a1 a2 σ) := by
  refine cok_of (own := RX7) (by decide) rfl (fun ad => Nat.le_of_ble_eq_true rfl) (fun κ hκ => ?_)
  show Ab sy_vi κ 0 [sy_vi a1, sy_vi a2] [] σ (m7_cut a1 a2 σ)
  unfold m7_cut
  refine ab_iload_n hκ dX7_cut_0 rfl ?_
  refine ab_if_ne (tgt := 9) hκ dX7_cut_1 rfl ?_ ?_
  · refine ab_iload_n hκ dX7_cut_9 rfl ?_
    refine ab_iconst (v := 1) hκ dX7_cut_10 rfl ?_
    refine ab_icmp_ne (tgt := 19) hκ dX7_cut_11 rfl ?_ ?_
    · refine ab_iload_n hκ dX7_cut_19 rfl ?_
      exact ab_iret hκ dX7_cut_20
    · refine ab_iload_n hκ dX7_cut_14 rfl ?_
      refine ab_i2s hκ dX7_cut_15 ?_
      refine ab_goto (tgt := 20) hκ dX7_cut_16 rfl ?_
      exact ab_iret hκ dX7_cut_20
  · refine ab_iload_n hκ dX7_cut_4 rfl ?_
    refine ab_i2b hκ dX7_cut_5 ?_
    refine ab_goto (tgt := 20) hκ dX7_cut_6 rfl ?_
    exact ab_iret hκ dX7_cut_20
-- BreathBandModel.lay(IIII)I, depth 2
def m7_lay (a1 : Int32) (a2 : Int32) (a3 : Int32) (a4 : Int32) (σ : St) : Option (Int32 × St) := sy_bd (m7_isSheet a1 σ) (fun r2 σ1 => if r2 = 0 then (some ((-2), σ1)) else (sy_bd (m7_in (Int32.toInt64 a2) 0 2 σ1) (fun r4 σ3 => if r4 = 0 then (some ((-2), σ3)) else (sy_bd (m7_lacks a1 a2 a3 σ3) (fun r6 σ5 => if r6 = 0 then (sy_bd (m7_cut a2 a4 σ5) (fun r8 σ7 => sy_gd ((60 * a1) + a3) 240 (sy_lt (sy_sf σ7 64 (sy_ix ((60 * a1) + a3)) r8) (fun σ9 => some (1, σ9))))) else (some (r6, σ5)))))))
set_option maxRecDepth 100000 in
set_option maxHeartbeats 4000000 in
theorem m7_lay_ok (a1 : Int32) (a2 : Int32) (a3 : Int32) (a4 : Int32) (σ : St) : Cok sy_vi yX7_lay cX7_lay 6 (some .int) 2 [.ref 61, .int a1, .int a2, .int a3, .int a4] σ (m7_lay a1 a2 a3 a4 σ) := by
  refine cok_of (own := RX7) (by decide) rfl (fun ad => Nat.le_of_ble_eq_true rfl) (fun κ hκ => ?_)
  show Ab sy_vi κ 0 [sy_vr 61, sy_vi a1, sy_vi a2, sy_vi a3, sy_vi a4, none] [] σ (m7_lay a1 a2 a3 a4 σ)
  unfold m7_lay
  refine ab_iload_n hκ dX7_lay_0 rfl ?_
  refine ab_cSi (vs := [.int a1]) (st := []) hκ dX7_lay_1 kl_RX7_85 ki_X7_isSheet kv_X7_isSheet (m7_isSheet_ok a1 σ) rfl (by decide) (Nat.le_of_ble_eq_true rfl) rfl (fun r2 σ1 => ?_)
  refine ab_if_eq (tgt := 19) hκ dX7_lay_4 rfl ?_ ?_
  · refine ab_bipush (v := (-2)) hκ dX7_lay_19 rfl ?_
    exact ab_iret hκ dX7_lay_21
  · refine ab_iload_n hκ dX7_lay_7 rfl ?_
    refine ab_i2l hκ dX7_lay_8 ?_
    refine ab_lconst (v := 0) hκ dX7_lay_9 rfl ?_
    refine ab_ldc2 hκ dX7_lay_10 kn_RX7_89 ?_
    refine ab_cSi (vs := [.long (Int32.toInt64 a2), .long 0, .long 2]) (st := []) hκ dX7_lay_13 kl_RX7_76 ki_X7_in kv_X7_in (m7_in_ok (Int32.toInt64 a2) 0 2 σ1) rfl (by decide) (Nat.le_of_ble_eq_true rfl) rfl (fun r4 σ3 => ?_)
    refine ab_if_ne (tgt := 22) hκ dX7_lay_16 rfl ?_ ?_
    · refine ab_aload_n hκ dX7_lay_22 rfl ?_
      refine ab_iload_n hκ dX7_lay_23 rfl ?_
      refine ab_iload_n hκ dX7_lay_24 rfl ?_
      refine ab_iload_n hκ dX7_lay_25 rfl ?_
      refine ab_cVi (vs := [.int a1, .int a2, .int a3]) (st := []) hκ dX7_lay_26 kl_RX7_95 ki_X7_lacks kv_X7_lacks (sy_o7 rfl) rfl rfl (m7_lacks_ok a1 a2 a3 σ3) rfl (by decide) (Nat.le_of_ble_eq_true rfl) rfl (fun r6 σ5 => ?_)
      refine ab_istore (lv' := [sy_vr 61, sy_vi a1, sy_vi a2, sy_vi a3, sy_vi a4, sy_vi r6]) hκ dX7_lay_29 (by decide) rfl ?_
      refine ab_iload hκ dX7_lay_31 rfl ?_
      refine ab_if_eq (tgt := 39) hκ dX7_lay_33 rfl ?_ ?_
      · refine ab_aload_n hκ dX7_lay_39 rfl ?_
        refine ab_getf (v := .ref 64) hκ (sy_o7 rfl) kf_RX7_16 rfl dX7_lay_40 rfl ?_
        refine ab_bipush (v := 60) hκ dX7_lay_43 rfl ?_
        refine ab_iload_n hκ dX7_lay_45 rfl ?_
        refine ab_imul hκ dX7_lay_46 ?_
        refine ab_iload_n hκ dX7_lay_47 rfl ?_
        refine ab_iadd hκ dX7_lay_48 ?_
        refine ab_iload_n hκ dX7_lay_49 rfl ?_
        refine ab_iload hκ dX7_lay_50 rfl ?_
        refine ab_cSi (vs := [.int a2, .int a4]) (st := [.int ((60 * a1) + a3), .ref 64]) hκ dX7_lay_52 kl_RX7_99 ki_X7_cut kv_X7_cut (m7_cut_ok a2 a4 σ5) rfl (by decide) (Nat.le_of_ble_eq_true rfl) rfl (fun r8 σ7 => ?_)
        refine ab_iast hκ rfl dX7_lay_55 ?_
        refine ab_lts (fun σ9 => ?_)
        refine ab_iconst (v := 1) hκ dX7_lay_56 rfl ?_
        exact ab_iret hκ dX7_lay_57
      · refine ab_iload hκ dX7_lay_36 rfl ?_
        exact ab_iret hκ dX7_lay_38
    · refine ab_bipush (v := (-2)) hκ dX7_lay_19 rfl ?_
      exact ab_iret hκ dX7_lay_21
-- BreathBandModel.get(III)I, depth 2
def m7_get (a1 : Int32) (a2 : Int32) (a3 : Int32) (σ : St) : Option (Int32 × St) := sy_bd (m7_isSheet a1 σ) (fun r2 σ1 => if r2 = 0 then (some ((-2147483648), σ1)) else (sy_bd (m7_in (Int32.toInt64 a2) 0 2 σ1) (fun r4 σ3 => if r4 = 0 then (some ((-2147483648), σ3)) else (sy_bd (m7_lacks a1 a2 a3 σ3) (fun r6 σ5 => if r6 = 0 then (sy_gd ((60 * a1) + a3) 240 (some ((σ5 64 (sy_ix ((60 * a1) + a3))), σ5))) else (some ((-2147483648), σ5)))))))
set_option maxRecDepth 100000 in
set_option maxHeartbeats 4000000 in
theorem m7_get_ok (a1 : Int32) (a2 : Int32) (a3 : Int32) (σ : St) : Cok sy_vi yX7_get cX7_get 4 (some .int) 2 [.ref 61, .int a1, .int a2, .int a3] σ (m7_get a1 a2 a3 σ) := by
  refine cok_of (own := RX7) (by decide) rfl (fun ad => Nat.le_of_ble_eq_true rfl) (fun κ hκ => ?_)
  show Ab sy_vi κ 0 [sy_vr 61, sy_vi a1, sy_vi a2, sy_vi a3] [] σ (m7_get a1 a2 a3 σ)
  unfold m7_get
  refine ab_iload_n hκ dX7_get_0 rfl ?_
  refine ab_cSi (vs := [.int a1]) (st := []) hκ dX7_get_1 kl_RX7_85 ki_X7_isSheet kv_X7_isSheet (m7_isSheet_ok a1 σ) rfl (by decide) (Nat.le_of_ble_eq_true rfl) rfl (fun r2 σ1 => ?_)
  refine ab_if_eq (tgt := 29) hκ dX7_get_4 rfl ?_ ?_
  · refine ab_ldc hκ dX7_get_29 kn_RX7_103 ?_
    exact ab_iret hκ dX7_get_31
  · refine ab_iload_n hκ dX7_get_7 rfl ?_
    refine ab_i2l hκ dX7_get_8 ?_
    refine ab_lconst (v := 0) hκ dX7_get_9 rfl ?_
    refine ab_ldc2 hκ dX7_get_10 kn_RX7_89 ?_
    refine ab_cSi (vs := [.long (Int32.toInt64 a2), .long 0, .long 2]) (st := []) hκ dX7_get_13 kl_RX7_76 ki_X7_in kv_X7_in (m7_in_ok (Int32.toInt64 a2) 0 2 σ1) rfl (by decide) (Nat.le_of_ble_eq_true rfl) rfl (fun r4 σ3 => ?_)
    refine ab_if_eq (tgt := 29) hκ dX7_get_16 rfl ?_ ?_
    · refine ab_ldc hκ dX7_get_29 kn_RX7_103 ?_
      exact ab_iret hκ dX7_get_31
    · refine ab_aload_n hκ dX7_get_19 rfl ?_
      refine ab_iload_n hκ dX7_get_20 rfl ?_
      refine ab_iload_n hκ dX7_get_21 rfl ?_
      refine ab_iload_n hκ dX7_get_22 rfl ?_
      refine ab_cVi (vs := [.int a1, .int a2, .int a3]) (st := []) hκ dX7_get_23 kl_RX7_95 ki_X7_lacks kv_X7_lacks (sy_o7 rfl) rfl rfl (m7_lacks_ok a1 a2 a3 σ3) rfl (by decide) (Nat.le_of_ble_eq_true rfl) rfl (fun r6 σ5 => ?_)
      refine ab_if_eq (tgt := 32) hκ dX7_get_26 rfl ?_ ?_
      · refine ab_aload_n hκ dX7_get_32 rfl ?_
        refine ab_getf (v := .ref 64) hκ (sy_o7 rfl) kf_RX7_16 rfl dX7_get_33 rfl ?_
        refine ab_bipush (v := 60) hκ dX7_get_36 rfl ?_
        refine ab_iload_n hκ dX7_get_38 rfl ?_
        refine ab_imul hκ dX7_get_39 ?_
        refine ab_iload_n hκ dX7_get_40 rfl ?_
        refine ab_iadd hκ dX7_get_41 ?_
        refine ab_iald hκ rfl dX7_get_42 ?_
        exact ab_iret hκ dX7_get_43
      · refine ab_ldc hκ dX7_get_29 kn_RX7_103 ?_
        exact ab_iret hκ dX7_get_31
-- BreathBandModel.copy(IIIII)I, depth 2
def m7_copy_L120b (K120 : Int32 → Int32 → Int32 → Int32 → Int32 → Int32 → St → Option (Int32 × St)) (E120_154 : Int32 → Int32 → Int32 → St → Option (Int32 × St)) (x15 : Int32) (x16 : Int32) (x17 : Int32) (x18 : Int32) (x19 : Int32) (x20 : Int32) (σ : St) : Option (Int32 × St) := if x19 ≤ x20 then (E120_154 x17 x18 x19 σ) else (sy_gd (((60 * x15) + x16) + x20) 240 (sy_gd x20 60 (sy_lt (sy_sf σ 65 (sy_ix x20) (σ 64 (sy_ix (((60 * x15) + x16) + x20)))) (fun σ21 => K120 x15 x16 x17 x18 x19 (x20 + 1) σ21))))
def m7_copy_L120 (E120_154 : Int32 → Int32 → Int32 → St → Option (Int32 × St)) : Nat → Int32 → Int32 → Int32 → Int32 → Int32 → Int32 → St → Option (Int32 × St)
  | 0 => fun _ _ _ _ _ _ _ => none
  | n + 1 => m7_copy_L120b  (m7_copy_L120  E120_154 n) E120_154
set_option maxRecDepth 100000 in
set_option maxHeartbeats 4000000 in
theorem m7_copy_L120b_ok {κ : Kx} (hκ : Gd κ cX7_copy 7 RX7 (some .int) 2) {K120 : Int32 → Int32 → Int32 → Int32 → Int32 → Int32 → St → Option (Int32 × St)} (hK120 : ∀ (x15 : Int32) (x16 : Int32) (x17 : Int32) (x18 : Int32) (x19 : Int32) (x20 : Int32) (σ : St), Ab sy_vi κ 120 [sy_vr 61, sy_vi x15, sy_vi x16, sy_vi x17, sy_vi x18, sy_vi x19, sy_vi x20] [] σ (K120 x15 x16 x17 x18 x19 x20 σ)) {E120_154 : Int32 → Int32 → Int32 → St → Option (Int32 × St)} (hE120_154 : ∀ (y3 : Int32) (y4 : Int32) (y5 : Int32) (σ : St), Ab sy_vi κ 154 [sy_vr 61, none, none, sy_vi y3, sy_vi y4, sy_vi y5, none] [] σ (E120_154 y3 y4 y5 σ)) (x15 : Int32) (x16 : Int32) (x17 : Int32) (x18 : Int32) (x19 : Int32) (x20 : Int32) (σ : St) : Ab sy_vi κ 120 [sy_vr 61, sy_vi x15, sy_vi x16, sy_vi x17, sy_vi x18, sy_vi x19, sy_vi x20] [] σ (m7_copy_L120b  K120 E120_154 x15 x16 x17 x18 x19 x20 σ) := by
  unfold m7_copy_L120b
  refine ab_iload hκ dX7_copy_120 rfl ?_
  refine ab_iload hκ dX7_copy_122 rfl ?_
  refine ab_icmp_ge (tgt := 154) hκ dX7_copy_124 rfl ?_ ?_
  · refine ab_fg (lv' := [sy_vr 61, none, none, sy_vi x17, sy_vi x18, sy_vi x19, none]) [1, 2, 6] rfl ?_
    exact hE120_154 x17 x18 x19 σ
  · refine ab_aload_n hκ dX7_copy_127 rfl ?_
    refine ab_getf (v := .ref 65) hκ (sy_o7 rfl) kf_RX7_19 rfl dX7_copy_128 rfl ?_
    refine ab_iload hκ dX7_copy_131 rfl ?_
    refine ab_aload_n hκ dX7_copy_133 rfl ?_
    refine ab_getf (v := .ref 64) hκ (sy_o7 rfl) kf_RX7_16 rfl dX7_copy_134 rfl ?_
    refine ab_bipush (v := 60) hκ dX7_copy_137 rfl ?_
    refine ab_iload_n hκ dX7_copy_139 rfl ?_
    refine ab_imul hκ dX7_copy_140 ?_
    refine ab_iload_n hκ dX7_copy_141 rfl ?_
    refine ab_iadd hκ dX7_copy_142 ?_
    refine ab_iload hκ dX7_copy_143 rfl ?_
    refine ab_iadd hκ dX7_copy_145 ?_
    refine ab_iald hκ rfl dX7_copy_146 ?_
    refine ab_iast hκ rfl dX7_copy_147 ?_
    refine ab_lts (fun σ21 => ?_)
    refine ab_iinc (v := (x20 + 1)) (lv' := [sy_vr 61, sy_vi x15, sy_vi x16, sy_vi x17, sy_vi x18, sy_vi x19, sy_vi (x20 + 1)]) hκ dX7_copy_148 rfl rfl (by decide) rfl ?_
    refine ab_goto (tgt := 120) hκ dX7_copy_151 rfl ?_
    exact hK120 x15 x16 x17 x18 x19 (x20 + 1) σ21
theorem m7_copy_L120_ok {κ : Kx} (hκ : Gd κ cX7_copy 7 RX7 (some .int) 2) {E120_154 : Int32 → Int32 → Int32 → St → Option (Int32 × St)} (hE120_154 : ∀ (y3 : Int32) (y4 : Int32) (y5 : Int32) (σ : St), Ab sy_vi κ 154 [sy_vr 61, none, none, sy_vi y3, sy_vi y4, sy_vi y5, none] [] σ (E120_154 y3 y4 y5 σ)) : ∀ (n : Nat) (x15 : Int32) (x16 : Int32) (x17 : Int32) (x18 : Int32) (x19 : Int32) (x20 : Int32) (σ : St), Ab sy_vi κ 120 [sy_vr 61, sy_vi x15, sy_vi x16, sy_vi x17, sy_vi x18, sy_vi x19, sy_vi x20] [] σ (m7_copy_L120  E120_154 n x15 x16 x17 x18 x19 x20 σ) := by
  intro n
  induction n with
  | zero => intros; exact ab_none
  | succ n ih => exact fun x15 x16 x17 x18 x19 x20 σ => m7_copy_L120b_ok hκ   ih hE120_154 x15 x16 x17 x18 x19 x20 σ
def m7_copy_L157b (K157 : Int32 → Int32 → Int32 → Int32 → St → Option (Int32 × St)) (x26 : Int32) (x27 : Int32) (x28 : Int32) (x29 : Int32) (σ : St) : Option (Int32 × St) := if x28 ≤ x29 then (some (1, σ)) else (sy_gd x29 60 (sy_gd (((60 * x26) + x27) + x29) 240 (sy_lt (sy_sf σ 64 (sy_ix (((60 * x26) + x27) + x29)) (σ 65 (sy_ix x29))) (fun σ30 => K157 x26 x27 x28 (x29 + 1) σ30))))
def m7_copy_L157 : Nat → Int32 → Int32 → Int32 → Int32 → St → Option (Int32 × St)
  | 0 => fun _ _ _ _ _ => none
  | n + 1 => m7_copy_L157b  (m7_copy_L157   n) 
set_option maxRecDepth 100000 in
set_option maxHeartbeats 4000000 in
theorem m7_copy_L157b_ok {κ : Kx} (hκ : Gd κ cX7_copy 7 RX7 (some .int) 2) {K157 : Int32 → Int32 → Int32 → Int32 → St → Option (Int32 × St)} (hK157 : ∀ (x26 : Int32) (x27 : Int32) (x28 : Int32) (x29 : Int32) (σ : St), Ab sy_vi κ 157 [sy_vr 61, none, none, sy_vi x26, sy_vi x27, sy_vi x28, sy_vi x29] [] σ (K157 x26 x27 x28 x29 σ)) (x26 : Int32) (x27 : Int32) (x28 : Int32) (x29 : Int32) (σ : St) : Ab sy_vi κ 157 [sy_vr 61, none, none, sy_vi x26, sy_vi x27, sy_vi x28, sy_vi x29] [] σ (m7_copy_L157b  K157 x26 x27 x28 x29 σ) := by
  unfold m7_copy_L157b
  refine ab_iload hκ dX7_copy_157 rfl ?_
  refine ab_iload hκ dX7_copy_159 rfl ?_
  refine ab_icmp_ge (tgt := 192) hκ dX7_copy_161 rfl ?_ ?_
  · refine ab_iconst (v := 1) hκ dX7_copy_192 rfl ?_
    exact ab_iret hκ dX7_copy_193
  · refine ab_aload_n hκ dX7_copy_164 rfl ?_
    refine ab_getf (v := .ref 64) hκ (sy_o7 rfl) kf_RX7_16 rfl dX7_copy_165 rfl ?_
    refine ab_bipush (v := 60) hκ dX7_copy_168 rfl ?_
    refine ab_iload_n hκ dX7_copy_170 rfl ?_
    refine ab_imul hκ dX7_copy_171 ?_
    refine ab_iload hκ dX7_copy_172 rfl ?_
    refine ab_iadd hκ dX7_copy_174 ?_
    refine ab_iload hκ dX7_copy_175 rfl ?_
    refine ab_iadd hκ dX7_copy_177 ?_
    refine ab_aload_n hκ dX7_copy_178 rfl ?_
    refine ab_getf (v := .ref 65) hκ (sy_o7 rfl) kf_RX7_19 rfl dX7_copy_179 rfl ?_
    refine ab_iload hκ dX7_copy_182 rfl ?_
    refine ab_iald hκ rfl dX7_copy_184 ?_
    refine ab_iast hκ rfl dX7_copy_185 ?_
    refine ab_lts (fun σ30 => ?_)
    refine ab_iinc (v := (x29 + 1)) (lv' := [sy_vr 61, none, none, sy_vi x26, sy_vi x27, sy_vi x28, sy_vi (x29 + 1)]) hκ dX7_copy_186 rfl rfl (by decide) rfl ?_
    refine ab_goto (tgt := 157) hκ dX7_copy_189 rfl ?_
    exact hK157 x26 x27 x28 (x29 + 1) σ30
theorem m7_copy_L157_ok {κ : Kx} (hκ : Gd κ cX7_copy 7 RX7 (some .int) 2) : ∀ (n : Nat) (x26 : Int32) (x27 : Int32) (x28 : Int32) (x29 : Int32) (σ : St), Ab sy_vi κ 157 [sy_vr 61, none, none, sy_vi x26, sy_vi x27, sy_vi x28, sy_vi x29] [] σ (m7_copy_L157   n x26 x27 x28 x29 σ) := by
  intro n
  induction n with
  | zero => intros; exact ab_none
  | succ n ih => exact fun x26 x27 x28 x29 σ => m7_copy_L157b_ok hκ   ih  x26 x27 x28 x29 σ
def m7_copy (a1 : Int32) (a2 : Int32) (a3 : Int32) (a4 : Int32) (a5 : Int32) (σ : St) : Option (Int32 × St) := sy_bd (m7_isSheet a1 σ) (fun r2 σ1 => if r2 = 0 then (some ((-2), σ1)) else (sy_bd (m7_isSheet a3 σ1) (fun r4 σ3 => if r4 = 0 then (some ((-2), σ3)) else (sy_gd a1 4 (if (σ3 62 (sy_ix a1)) < 0 then (sy_bd (m7_finds 1 σ3) (fun r6 σ5 => some (r6, σ5))) else (sy_gd a3 4 (if 0 ≤ (σ3 62 (sy_ix a3)) then (sy_gd a1 4 (sy_gd a3 4 (if (σ3 62 (sy_ix a1)) = (σ3 62 (sy_ix a3)) then (if a2 < 0 then (sy_bd (m7_finds 2 σ3) (fun r8 σ7 => some (r8, σ7))) else (if a4 < 0 then (sy_bd (m7_finds 2 σ3) (fun r10 σ9 => some (r10, σ9))) else (if a5 < 0 then (sy_bd (m7_finds 2 σ3) (fun r12 σ11 => some (r12, σ11))) else (sy_gd a1 4 (if 0 < (lg_cmp ((Int32.toInt64 a2) + (Int32.toInt64 a5)) (Int32.toInt64 (σ3 63 (sy_ix a1)))) then (sy_bd (m7_finds 2 σ3) (fun r14 σ13 => some (r14, σ13))) else (sy_gd a3 4 (if (lg_cmp ((Int32.toInt64 a4) + (Int32.toInt64 a5)) (Int32.toInt64 (σ3 63 (sy_ix a3)))) ≤ 0 then (m7_copy_L120 (fun y22 y23 y24 σ25 => m7_copy_L157 sy_FU y22 y23 y24 0 σ25) sy_FU a1 a2 a3 a4 a5 0 σ3) else (sy_bd (m7_finds 2 σ3) (fun r32 σ31 => some (r32, σ31)))))))))) else (sy_bd (m7_finds 4 σ3) (fun r34 σ33 => some (r34, σ33)))))) else (sy_bd (m7_finds 1 σ3) (fun r36 σ35 => some (r36, σ35))))))))))
set_option maxRecDepth 100000 in
set_option maxHeartbeats 4000000 in
theorem m7_copy_ok (a1 : Int32) (a2 : Int32) (a3 : Int32) (a4 : Int32) (a5 : Int32) (σ : St) : Cok sy_vi yX7_copy cX7_copy 7 (some .int) 2 [.ref 61, .int a1, .int a2, .int a3, .int a4, .int a5] σ (m7_copy a1 a2 a3 a4 a5 σ) := by
  refine cok_of (own := RX7) (by decide) rfl (fun ad => Nat.le_of_ble_eq_true rfl) (fun κ hκ => ?_)
  show Ab sy_vi κ 0 [sy_vr 61, sy_vi a1, sy_vi a2, sy_vi a3, sy_vi a4, sy_vi a5, none] [] σ (m7_copy a1 a2 a3 a4 a5 σ)
  unfold m7_copy
  refine ab_iload_n hκ dX7_copy_0 rfl ?_
  refine ab_cSi (vs := [.int a1]) (st := []) hκ dX7_copy_1 kl_RX7_85 ki_X7_isSheet kv_X7_isSheet (m7_isSheet_ok a1 σ) rfl (by decide) (Nat.le_of_ble_eq_true rfl) rfl (fun r2 σ1 => ?_)
  refine ab_if_eq (tgt := 14) hκ dX7_copy_4 rfl ?_ ?_
  · refine ab_bipush (v := (-2)) hκ dX7_copy_14 rfl ?_
    exact ab_iret hκ dX7_copy_16
  · refine ab_iload_n hκ dX7_copy_7 rfl ?_
    refine ab_cSi (vs := [.int a3]) (st := []) hκ dX7_copy_8 kl_RX7_85 ki_X7_isSheet kv_X7_isSheet (m7_isSheet_ok a3 σ1) rfl (by decide) (Nat.le_of_ble_eq_true rfl) rfl (fun r4 σ3 => ?_)
    refine ab_if_ne (tgt := 17) hκ dX7_copy_11 rfl ?_ ?_
    · refine ab_aload_n hκ dX7_copy_17 rfl ?_
      refine ab_getf (v := .ref 62) hκ (sy_o7 rfl) kf_RX7_7 rfl dX7_copy_18 rfl ?_
      refine ab_iload_n hκ dX7_copy_21 rfl ?_
      refine ab_iald hκ rfl dX7_copy_22 ?_
      refine ab_if_lt (tgt := 35) hκ dX7_copy_23 rfl ?_ ?_
      · refine ab_aload_n hκ dX7_copy_35 rfl ?_
        refine ab_iconst (v := 1) hκ dX7_copy_36 rfl ?_
        refine ab_cVi (vs := [.int 1]) (st := []) hκ dX7_copy_37 kl_RX7_91 ki_X7_finds kv_X7_finds (sy_o7 rfl) rfl rfl (m7_finds_ok 1 σ3) rfl (by decide) (Nat.le_of_ble_eq_true rfl) rfl (fun r6 σ5 => ?_)
        exact ab_iret hκ dX7_copy_40
      · refine ab_aload_n hκ dX7_copy_26 rfl ?_
        refine ab_getf (v := .ref 62) hκ (sy_o7 rfl) kf_RX7_7 rfl dX7_copy_27 rfl ?_
        refine ab_iload_n hκ dX7_copy_30 rfl ?_
        refine ab_iald hκ rfl dX7_copy_31 ?_
        refine ab_if_ge (tgt := 41) hκ dX7_copy_32 rfl ?_ ?_
        · refine ab_aload_n hκ dX7_copy_41 rfl ?_
          refine ab_getf (v := .ref 62) hκ (sy_o7 rfl) kf_RX7_7 rfl dX7_copy_42 rfl ?_
          refine ab_iload_n hκ dX7_copy_45 rfl ?_
          refine ab_iald hκ rfl dX7_copy_46 ?_
          refine ab_aload_n hκ dX7_copy_47 rfl ?_
          refine ab_getf (v := .ref 62) hκ (sy_o7 rfl) kf_RX7_7 rfl dX7_copy_48 rfl ?_
          refine ab_iload_n hκ dX7_copy_51 rfl ?_
          refine ab_iald hκ rfl dX7_copy_52 ?_
          refine ab_icmp_eq (tgt := 62) hκ dX7_copy_53 rfl ?_ ?_
          · refine ab_iload_n hκ dX7_copy_62 rfl ?_
            refine ab_if_lt (tgt := 111) hκ dX7_copy_63 rfl ?_ ?_
            · refine ab_aload_n hκ dX7_copy_111 rfl ?_
              refine ab_iconst (v := 2) hκ dX7_copy_112 rfl ?_
              refine ab_cVi (vs := [.int 2]) (st := []) hκ dX7_copy_113 kl_RX7_91 ki_X7_finds kv_X7_finds (sy_o7 rfl) rfl rfl (m7_finds_ok 2 σ3) rfl (by decide) (Nat.le_of_ble_eq_true rfl) rfl (fun r8 σ7 => ?_)
              exact ab_iret hκ dX7_copy_116
            · refine ab_iload hκ dX7_copy_66 rfl ?_
              refine ab_if_lt (tgt := 111) hκ dX7_copy_68 rfl ?_ ?_
              · refine ab_aload_n hκ dX7_copy_111 rfl ?_
                refine ab_iconst (v := 2) hκ dX7_copy_112 rfl ?_
                refine ab_cVi (vs := [.int 2]) (st := []) hκ dX7_copy_113 kl_RX7_91 ki_X7_finds kv_X7_finds (sy_o7 rfl) rfl rfl (m7_finds_ok 2 σ3) rfl (by decide) (Nat.le_of_ble_eq_true rfl) rfl (fun r10 σ9 => ?_)
                exact ab_iret hκ dX7_copy_116
              · refine ab_iload hκ dX7_copy_71 rfl ?_
                refine ab_if_lt (tgt := 111) hκ dX7_copy_73 rfl ?_ ?_
                · refine ab_aload_n hκ dX7_copy_111 rfl ?_
                  refine ab_iconst (v := 2) hκ dX7_copy_112 rfl ?_
                  refine ab_cVi (vs := [.int 2]) (st := []) hκ dX7_copy_113 kl_RX7_91 ki_X7_finds kv_X7_finds (sy_o7 rfl) rfl rfl (m7_finds_ok 2 σ3) rfl (by decide) (Nat.le_of_ble_eq_true rfl) rfl (fun r12 σ11 => ?_)
                  exact ab_iret hκ dX7_copy_116
                · refine ab_iload_n hκ dX7_copy_76 rfl ?_
                  refine ab_i2l hκ dX7_copy_77 ?_
                  refine ab_iload hκ dX7_copy_78 rfl ?_
                  refine ab_i2l hκ dX7_copy_80 ?_
                  refine ab_ladd hκ dX7_copy_81 ?_
                  refine ab_aload_n hκ dX7_copy_82 rfl ?_
                  refine ab_getf (v := .ref 63) hκ (sy_o7 rfl) kf_RX7_13 rfl dX7_copy_83 rfl ?_
                  refine ab_iload_n hκ dX7_copy_86 rfl ?_
                  refine ab_iald hκ rfl dX7_copy_87 ?_
                  refine ab_i2l hκ dX7_copy_88 ?_
                  refine ab_lcmp hκ dX7_copy_89 ?_
                  refine ab_if_gt (tgt := 111) hκ dX7_copy_90 rfl ?_ ?_
                  · refine ab_aload_n hκ dX7_copy_111 rfl ?_
                    refine ab_iconst (v := 2) hκ dX7_copy_112 rfl ?_
                    refine ab_cVi (vs := [.int 2]) (st := []) hκ dX7_copy_113 kl_RX7_91 ki_X7_finds kv_X7_finds (sy_o7 rfl) rfl rfl (m7_finds_ok 2 σ3) rfl (by decide) (Nat.le_of_ble_eq_true rfl) rfl (fun r14 σ13 => ?_)
                    exact ab_iret hκ dX7_copy_116
                  · refine ab_iload hκ dX7_copy_93 rfl ?_
                    refine ab_i2l hκ dX7_copy_95 ?_
                    refine ab_iload hκ dX7_copy_96 rfl ?_
                    refine ab_i2l hκ dX7_copy_98 ?_
                    refine ab_ladd hκ dX7_copy_99 ?_
                    refine ab_aload_n hκ dX7_copy_100 rfl ?_
                    refine ab_getf (v := .ref 63) hκ (sy_o7 rfl) kf_RX7_13 rfl dX7_copy_101 rfl ?_
                    refine ab_iload_n hκ dX7_copy_104 rfl ?_
                    refine ab_iald hκ rfl dX7_copy_105 ?_
                    refine ab_i2l hκ dX7_copy_106 ?_
                    refine ab_lcmp hκ dX7_copy_107 ?_
                    refine ab_if_le (tgt := 117) hκ dX7_copy_108 rfl ?_ ?_
                    · refine ab_iconst (v := 0) hκ dX7_copy_117 rfl ?_
                      refine ab_istore (lv' := [sy_vr 61, sy_vi a1, sy_vi a2, sy_vi a3, sy_vi a4, sy_vi a5, sy_vi 0]) hκ dX7_copy_118 (by decide) rfl ?_
                      refine m7_copy_L120_ok hκ ?_ _ _ _ _ _ _ _ _
                      · intro y22 y23 y24 σ25
                        refine ab_iconst (v := 0) hκ dX7_copy_154 rfl ?_
                        refine ab_istore (lv' := [sy_vr 61, none, none, sy_vi y22, sy_vi y23, sy_vi y24, sy_vi 0]) hκ dX7_copy_155 (by decide) rfl ?_
                        exact m7_copy_L157_ok hκ _ _ _ _ _ _
                    · refine ab_aload_n hκ dX7_copy_111 rfl ?_
                      refine ab_iconst (v := 2) hκ dX7_copy_112 rfl ?_
                      refine ab_cVi (vs := [.int 2]) (st := []) hκ dX7_copy_113 kl_RX7_91 ki_X7_finds kv_X7_finds (sy_o7 rfl) rfl rfl (m7_finds_ok 2 σ3) rfl (by decide) (Nat.le_of_ble_eq_true rfl) rfl (fun r32 σ31 => ?_)
                      exact ab_iret hκ dX7_copy_116
          · refine ab_aload_n hκ dX7_copy_56 rfl ?_
            refine ab_iconst (v := 4) hκ dX7_copy_57 rfl ?_
            refine ab_cVi (vs := [.int 4]) (st := []) hκ dX7_copy_58 kl_RX7_91 ki_X7_finds kv_X7_finds (sy_o7 rfl) rfl rfl (m7_finds_ok 4 σ3) rfl (by decide) (Nat.le_of_ble_eq_true rfl) rfl (fun r34 σ33 => ?_)
            exact ab_iret hκ dX7_copy_61
        · refine ab_aload_n hκ dX7_copy_35 rfl ?_
          refine ab_iconst (v := 1) hκ dX7_copy_36 rfl ?_
          refine ab_cVi (vs := [.int 1]) (st := []) hκ dX7_copy_37 kl_RX7_91 ki_X7_finds kv_X7_finds (sy_o7 rfl) rfl rfl (m7_finds_ok 1 σ3) rfl (by decide) (Nat.le_of_ble_eq_true rfl) rfl (fun r36 σ35 => ?_)
          exact ab_iret hκ dX7_copy_40
    · refine ab_bipush (v := (-2)) hκ dX7_copy_14 rfl ?_
      exact ab_iret hκ dX7_copy_16
-- BreathBandModel.write(I)I, depth 6
def m7_write_L43b (K43 : Int32 → Int32 → Int32 → St → Option (Int32 × St)) (E43_80 : Int32 → St → Option (Int32 × St)) (x6 : Int32) (x7 : Int32) (x8 : Int32) (σ : St) : Option (Int32 × St) := if x7 ≤ x8 then (E43_80 x7 σ) else (sy_gd x6 4 (sy_gd x8 24 (sy_bd (m7_cut (σ 62 (sy_ix x6)) (σ 72 (sy_ix x8)) σ) (fun r10 σ9 => sy_gd ((60 * x6) + x8) 240 (sy_lt (sy_sf σ9 64 (sy_ix ((60 * x6) + x8)) r10) (fun σ11 => K43 x6 x7 (x8 + 1) σ11))))))
def m7_write_L43 (E43_80 : Int32 → St → Option (Int32 × St)) : Nat → Int32 → Int32 → Int32 → St → Option (Int32 × St)
  | 0 => fun _ _ _ _ => none
  | n + 1 => m7_write_L43b  (m7_write_L43  E43_80 n) E43_80
set_option maxRecDepth 100000 in
set_option maxHeartbeats 4000000 in
theorem m7_write_L43b_ok {κ : Kx} (hκ : Gd κ cX7_write 4 RX7 (some .int) 6) {K43 : Int32 → Int32 → Int32 → St → Option (Int32 × St)} (hK43 : ∀ (x6 : Int32) (x7 : Int32) (x8 : Int32) (σ : St), Ab sy_vi κ 43 [sy_vr 61, sy_vi x6, sy_vi x7, sy_vi x8] [] σ (K43 x6 x7 x8 σ)) {E43_80 : Int32 → St → Option (Int32 × St)} (hE43_80 : ∀ (y2 : Int32) (σ : St), Ab sy_vi κ 80 [none, none, sy_vi y2, none] [] σ (E43_80 y2 σ)) (x6 : Int32) (x7 : Int32) (x8 : Int32) (σ : St) : Ab sy_vi κ 43 [sy_vr 61, sy_vi x6, sy_vi x7, sy_vi x8] [] σ (m7_write_L43b  K43 E43_80 x6 x7 x8 σ) := by
  unfold m7_write_L43b
  refine ab_iload_n hκ dX7_write_43 rfl ?_
  refine ab_iload_n hκ dX7_write_44 rfl ?_
  refine ab_icmp_ge (tgt := 80) hκ dX7_write_45 rfl ?_ ?_
  · refine ab_fg (lv' := [none, none, sy_vi x7, none]) [0, 1, 3] rfl ?_
    exact hE43_80 x7 σ
  · refine ab_aload_n hκ dX7_write_48 rfl ?_
    refine ab_getf (v := .ref 64) hκ (sy_o7 rfl) kf_RX7_16 rfl dX7_write_49 rfl ?_
    refine ab_bipush (v := 60) hκ dX7_write_52 rfl ?_
    refine ab_iload_n hκ dX7_write_54 rfl ?_
    refine ab_imul hκ dX7_write_55 ?_
    refine ab_iload_n hκ dX7_write_56 rfl ?_
    refine ab_iadd hκ dX7_write_57 ?_
    refine ab_aload_n hκ dX7_write_58 rfl ?_
    refine ab_getf (v := .ref 62) hκ (sy_o7 rfl) kf_RX7_7 rfl dX7_write_59 rfl ?_
    refine ab_iload_n hκ dX7_write_62 rfl ?_
    refine ab_iald hκ rfl dX7_write_63 ?_
    refine ab_aload_n hκ dX7_write_64 rfl ?_
    refine ab_getf (v := .ref 72) hκ (sy_o7 rfl) kf_RX7_40 rfl dX7_write_65 rfl ?_
    refine ab_iload_n hκ dX7_write_68 rfl ?_
    refine ab_iald hκ rfl dX7_write_69 ?_
    refine ab_cSi (vs := [.int (σ 62 (sy_ix x6)), .int (σ 72 (sy_ix x8))]) (st := [.int ((60 * x6) + x8), .ref 64]) hκ dX7_write_70 kl_RX7_99 ki_X7_cut kv_X7_cut (m7_cut_ok (σ 62 (sy_ix x6)) (σ 72 (sy_ix x8)) σ) rfl (by decide) (Nat.le_of_ble_eq_true rfl) rfl (fun r10 σ9 => ?_)
    refine ab_iast hκ rfl dX7_write_73 ?_
    refine ab_lts (fun σ11 => ?_)
    refine ab_iinc (v := (x8 + 1)) (lv' := [sy_vr 61, sy_vi x6, sy_vi x7, sy_vi (x8 + 1)]) hκ dX7_write_74 rfl rfl (by decide) rfl ?_
    refine ab_goto (tgt := 43) hκ dX7_write_77 rfl ?_
    exact hK43 x6 x7 (x8 + 1) σ11
theorem m7_write_L43_ok {κ : Kx} (hκ : Gd κ cX7_write 4 RX7 (some .int) 6) {E43_80 : Int32 → St → Option (Int32 × St)} (hE43_80 : ∀ (y2 : Int32) (σ : St), Ab sy_vi κ 80 [none, none, sy_vi y2, none] [] σ (E43_80 y2 σ)) : ∀ (n : Nat) (x6 : Int32) (x7 : Int32) (x8 : Int32) (σ : St), Ab sy_vi κ 43 [sy_vr 61, sy_vi x6, sy_vi x7, sy_vi x8] [] σ (m7_write_L43  E43_80 n x6 x7 x8 σ) := by
  intro n
  induction n with
  | zero => intros; exact ab_none
  | succ n ih => exact fun x6 x7 x8 σ => m7_write_L43b_ok hκ   ih hE43_80 x6 x7 x8 σ
def m7_write (a1 : Int32) (σ : St) : Option (Int32 × St) := sy_bd (m7_isSheet a1 σ) (fun r2 σ1 => if r2 = 0 then (some ((-2), σ1)) else (sy_gd a1 4 (if 0 ≤ (σ1 62 (sy_ix a1)) then (sy_bd (m7_find σ1) (fun _ σ3 => sy_gd a1 4 (sy_bd (m7_lesser (σ3 63 (sy_ix a1)) 24 σ3) (fun r5 σ4 => m7_write_L43 (fun y12 σ13 => some (y12, σ13)) sy_FU a1 r5 0 σ4)))) else (sy_bd (m7_finds 1 σ1) (fun r15 σ14 => some (r15, σ14))))))
set_option maxRecDepth 100000 in
set_option maxHeartbeats 4000000 in
theorem m7_write_ok (a1 : Int32) (σ : St) : Cok sy_vi yX7_write cX7_write 4 (some .int) 6 [.ref 61, .int a1] σ (m7_write a1 σ) := by
  refine cok_of (own := RX7) (by decide) rfl (fun ad => Nat.le_of_ble_eq_true rfl) (fun κ hκ => ?_)
  show Ab sy_vi κ 0 [sy_vr 61, sy_vi a1, none, none] [] σ (m7_write a1 σ)
  unfold m7_write
  refine ab_iload_n hκ dX7_write_0 rfl ?_
  refine ab_cSi (vs := [.int a1]) (st := []) hκ dX7_write_1 kl_RX7_85 ki_X7_isSheet kv_X7_isSheet (m7_isSheet_ok a1 σ) rfl (by decide) (Nat.le_of_ble_eq_true rfl) rfl (fun r2 σ1 => ?_)
  refine ab_if_ne (tgt := 10) hκ dX7_write_4 rfl ?_ ?_
  · refine ab_aload_n hκ dX7_write_10 rfl ?_
    refine ab_getf (v := .ref 62) hκ (sy_o7 rfl) kf_RX7_7 rfl dX7_write_11 rfl ?_
    refine ab_iload_n hκ dX7_write_14 rfl ?_
    refine ab_iald hκ rfl dX7_write_15 ?_
    refine ab_if_ge (tgt := 25) hκ dX7_write_16 rfl ?_ ?_
    · refine ab_aload_n hκ dX7_write_25 rfl ?_
      refine ab_cVv (vs := []) (st := []) hκ dX7_write_26 kl_RX7_204 ki_X7_find kv_X7_find (sy_o7 rfl) rfl rfl (m7_find_ok σ1) rfl (by decide) (Nat.le_of_ble_eq_true rfl) rfl (fun _ σ3 => ?_)
      refine ab_aload_n hκ dX7_write_29 rfl ?_
      refine ab_getf (v := .ref 63) hκ (sy_o7 rfl) kf_RX7_13 rfl dX7_write_30 rfl ?_
      refine ab_iload_n hκ dX7_write_33 rfl ?_
      refine ab_iald hκ rfl dX7_write_34 ?_
      refine ab_bipush (v := 24) hκ dX7_write_35 rfl ?_
      refine ab_cSi (vs := [.int (σ3 63 (sy_ix a1)), .int 24]) (st := []) hκ dX7_write_37 kl_RX7_179 ki_X7_lesser kv_X7_lesser (m7_lesser_ok (σ3 63 (sy_ix a1)) 24 σ3) rfl (by decide) (Nat.le_of_ble_eq_true rfl) rfl (fun r5 σ4 => ?_)
      refine ab_istore_n (lv' := [sy_vr 61, sy_vi a1, sy_vi r5, none]) hκ dX7_write_40 rfl (by decide) rfl ?_
      refine ab_iconst (v := 0) hκ dX7_write_41 rfl ?_
      refine ab_istore_n (lv' := [sy_vr 61, sy_vi a1, sy_vi r5, sy_vi 0]) hκ dX7_write_42 rfl (by decide) rfl ?_
      refine m7_write_L43_ok hκ ?_ _ _ _ _ _
      · intro y12 σ13
        refine ab_iload_n hκ dX7_write_80 rfl ?_
        exact ab_iret hκ dX7_write_81
    · refine ab_aload_n hκ dX7_write_19 rfl ?_
      refine ab_iconst (v := 1) hκ dX7_write_20 rfl ?_
      refine ab_cVi (vs := [.int 1]) (st := []) hκ dX7_write_21 kl_RX7_91 ki_X7_finds kv_X7_finds (sy_o7 rfl) rfl rfl (m7_finds_ok 1 σ1) rfl (by decide) (Nat.le_of_ble_eq_true rfl) rfl (fun r15 σ14 => ?_)
      exact ab_iret hκ dX7_write_24
  · refine ab_bipush (v := (-2)) hκ dX7_write_7 rfl ?_
    exact ab_iret hκ dX7_write_9
-- BreathBandModel.count(I)I, depth 6
def m7_count (a1 : Int32) (σ : St) : Option (Int32 × St) := sy_bd (m7_find σ) (fun _ σ1 => sy_sw a1 [some ((σ1 61 7), σ1), some ((σ1 61 9), σ1), sy_gd (a1 - 2) 2 (some ((σ1 67 (sy_ix (a1 - 2))), σ1)), sy_gd (a1 - 2) 2 (some ((σ1 67 (sy_ix (a1 - 2))), σ1)), some ((σ1 61 12), σ1), some ((σ1 61 11), σ1), sy_bd (m7_soundNow σ1) (fun r3 σ2 => some (r3, σ2)), some ((σ1 61 28), σ1), some ((σ1 61 4), σ1)] (some ((-2), σ1)))
set_option maxRecDepth 100000 in
set_option maxHeartbeats 4000000 in
theorem m7_count_ok (a1 : Int32) (σ : St) : Cok sy_vi yX7_count cX7_count 2 (some .int) 6 [.ref 61, .int a1] σ (m7_count a1 σ) := by
  refine cok_of (own := RX7) (by decide) rfl (fun ad => Nat.le_of_ble_eq_true rfl) (fun κ hκ => ?_)
  show Ab sy_vi κ 0 [sy_vr 61, sy_vi a1] [] σ (m7_count a1 σ)
  unfold m7_count
  refine ab_aload_n hκ dX7_count_0 rfl ?_
  refine ab_cVv (vs := []) (st := []) hκ dX7_count_1 kl_RX7_204 ki_X7_find kv_X7_find (sy_o7 rfl) rfl rfl (m7_find_ok σ) rfl (by decide) (Nat.le_of_ble_eq_true rfl) rfl (fun _ σ1 => ?_)
  refine ab_iload_n hκ dX7_count_4 rfl ?_
  refine ab_tsw hκ dX7_count_5 rfl rfl (by decide) ?_ ⟨?_, ?_, ?_, ?_, ?_, ?_, ?_, ?_, ?_, trivial⟩
  · refine ab_bipush (v := (-2)) hκ dX7_count_100 rfl ?_
    exact ab_iret hκ dX7_count_102
  · refine ab_aload_n hκ dX7_count_56 rfl ?_
    refine ab_getf (v := .int (σ1 61 7)) hκ (sy_o7 rfl) kf_RX7_113 rfl dX7_count_57 rfl ?_
    exact ab_iret hκ dX7_count_60
  · refine ab_aload_n hκ dX7_count_61 rfl ?_
    refine ab_getf (v := .int (σ1 61 9)) hκ (sy_o7 rfl) kf_RX7_124 rfl dX7_count_62 rfl ?_
    exact ab_iret hκ dX7_count_65
  · refine ab_aload_n hκ dX7_count_66 rfl ?_
    refine ab_getf (v := .ref 67) hκ (sy_o7 rfl) kf_RX7_25 rfl dX7_count_67 rfl ?_
    refine ab_iload_n hκ dX7_count_70 rfl ?_
    refine ab_iconst (v := 2) hκ dX7_count_71 rfl ?_
    refine ab_isub hκ dX7_count_72 ?_
    refine ab_iald hκ rfl dX7_count_73 ?_
    exact ab_iret hκ dX7_count_74
  · refine ab_aload_n hκ dX7_count_66 rfl ?_
    refine ab_getf (v := .ref 67) hκ (sy_o7 rfl) kf_RX7_25 rfl dX7_count_67 rfl ?_
    refine ab_iload_n hκ dX7_count_70 rfl ?_
    refine ab_iconst (v := 2) hκ dX7_count_71 rfl ?_
    refine ab_isub hκ dX7_count_72 ?_
    refine ab_iald hκ rfl dX7_count_73 ?_
    exact ab_iret hκ dX7_count_74
  · refine ab_aload_n hκ dX7_count_75 rfl ?_
    refine ab_getf (v := .int (σ1 61 12)) hκ (sy_o7 rfl) kf_RX7_155 rfl dX7_count_76 rfl ?_
    exact ab_iret hκ dX7_count_79
  · refine ab_aload_n hκ dX7_count_80 rfl ?_
    refine ab_getf (v := .int (σ1 61 11)) hκ (sy_o7 rfl) kf_RX7_67 rfl dX7_count_81 rfl ?_
    exact ab_iret hκ dX7_count_84
  · refine ab_aload_n hκ dX7_count_85 rfl ?_
    refine ab_cVi (vs := []) (st := []) hκ dX7_count_86 kl_RX7_216 ki_X7_soundNow kv_X7_soundNow (sy_o7 rfl) rfl rfl (m7_soundNow_ok σ1) rfl (by decide) (Nat.le_of_ble_eq_true rfl) rfl (fun r3 σ2 => ?_)
    exact ab_iret hκ dX7_count_89
  · refine ab_aload_n hκ dX7_count_90 rfl ?_
    refine ab_getf (v := .int (σ1 61 28)) hκ (sy_o7 rfl) kf_RX7_251 rfl dX7_count_91 rfl ?_
    exact ab_iret hκ dX7_count_94
  · refine ab_aload_n hκ dX7_count_95 rfl ?_
    refine ab_getf (v := .int (σ1 61 4)) hκ (sy_o7 rfl) kf_RX7_80 rfl dX7_count_96 rfl ?_
    exact ab_iret hκ dX7_count_99
-- BreathBandModel.tellsNote(JI)J, depth 6
def m7_tellsNote (a1 : Int64) (a2 : Int32) (σ : St) : Option (Int64 × St) := sy_bd (m7_lives σ) (fun _ σ1 => sy_gd a2 16 (sy_lt ((31 * a1) + (Int32.toInt64 (σ1 74 (sy_ix a2)))) (fun v2 => sy_bd (m7_chanceOf 5 a2 0 σ1) (fun r4 σ3 => sy_lt ((31 * v2) + r4) (fun v5 => sy_bd (m7_chanceOf 5 a2 1 σ3) (fun r7 σ6 => some (((31 * v5) + r7), σ6)))))))
set_option maxRecDepth 100000 in
set_option maxHeartbeats 4000000 in
theorem m7_tellsNote_ok (a1 : Int64) (a2 : Int32) (σ : St) : Cok sy_vl yX7_tellsNote cX7_tellsNote 6 (some .long) 6 [.ref 61, .long a1, .int a2] σ (m7_tellsNote a1 a2 σ) := by
  refine cok_of (own := RX7) (by decide) rfl (fun ad => Nat.le_of_ble_eq_true rfl) (fun κ hκ => ?_)
  show Ab sy_vl κ 0 [sy_vr 61, sy_vl a1, none, sy_vi a2, none, none] [] σ (m7_tellsNote a1 a2 σ)
  unfold m7_tellsNote
  refine ab_aload_n hκ dX7_tellsNote_0 rfl ?_
  refine ab_cVv (vs := []) (st := []) hκ dX7_tellsNote_1 kl_RX7_201 ki_X7_lives kv_X7_lives (sy_o7 rfl) rfl rfl (m7_lives_ok σ) rfl (by decide) (Nat.le_of_ble_eq_true rfl) rfl (fun _ σ1 => ?_)
  refine ab_ldc2 hκ dX7_tellsNote_4 kn_RX7_300 ?_
  refine ab_lload_n hκ dX7_tellsNote_7 rfl ?_
  refine ab_lmul hκ dX7_tellsNote_8 ?_
  refine ab_aload_n hκ dX7_tellsNote_9 rfl ?_
  refine ab_getf (v := .ref 74) hκ (sy_o7 rfl) kf_RX7_46 rfl dX7_tellsNote_10 rfl ?_
  refine ab_iload_n hκ dX7_tellsNote_13 rfl ?_
  refine ab_iald hκ rfl dX7_tellsNote_14 ?_
  refine ab_i2l hκ dX7_tellsNote_15 ?_
  refine ab_ladd hκ dX7_tellsNote_16 ?_
  refine ab_ltl (fun v2 => ?_)
  refine ab_lstore (lv' := [sy_vr 61, sy_vl a1, none, sy_vi a2, sy_vl v2, none]) hκ dX7_tellsNote_17 (by decide) rfl ?_
  refine ab_ldc2 hκ dX7_tellsNote_19 kn_RX7_300 ?_
  refine ab_lload hκ dX7_tellsNote_22 rfl ?_
  refine ab_lmul hκ dX7_tellsNote_24 ?_
  refine ab_aload_n hκ dX7_tellsNote_25 rfl ?_
  refine ab_iconst (v := 5) hκ dX7_tellsNote_26 rfl ?_
  refine ab_iload_n hκ dX7_tellsNote_27 rfl ?_
  refine ab_iconst (v := 0) hκ dX7_tellsNote_28 rfl ?_
  refine ab_cVl (vs := [.int 5, .int a2, .int 0]) (st := [.long (31 * v2)]) hκ dX7_tellsNote_29 kl_RX7_282 ki_X7_chanceOf kv_X7_chanceOf (sy_o7 rfl) rfl rfl (m7_chanceOf_ok 5 a2 0 σ1) rfl (by decide) (Nat.le_of_ble_eq_true rfl) rfl (fun r4 σ3 => ?_)
  refine ab_ladd hκ dX7_tellsNote_32 ?_
  refine ab_ltl (fun v5 => ?_)
  refine ab_lstore (lv' := [sy_vr 61, sy_vl a1, none, sy_vi a2, sy_vl v5, none]) hκ dX7_tellsNote_33 (by decide) rfl ?_
  refine ab_ldc2 hκ dX7_tellsNote_35 kn_RX7_300 ?_
  refine ab_lload hκ dX7_tellsNote_38 rfl ?_
  refine ab_lmul hκ dX7_tellsNote_40 ?_
  refine ab_aload_n hκ dX7_tellsNote_41 rfl ?_
  refine ab_iconst (v := 5) hκ dX7_tellsNote_42 rfl ?_
  refine ab_iload_n hκ dX7_tellsNote_43 rfl ?_
  refine ab_iconst (v := 1) hκ dX7_tellsNote_44 rfl ?_
  refine ab_cVl (vs := [.int 5, .int a2, .int 1]) (st := [.long (31 * v5)]) hκ dX7_tellsNote_45 kl_RX7_282 ki_X7_chanceOf kv_X7_chanceOf (sy_o7 rfl) rfl rfl (m7_chanceOf_ok 5 a2 1 σ3) rfl (by decide) (Nat.le_of_ble_eq_true rfl) rfl (fun r7 σ6 => ?_)
  refine ab_ladd hκ dX7_tellsNote_48 ?_
  exact ab_lret hκ dX7_tellsNote_49
-- BreathBandModel.tellsPlayer(JI)J, depth 8
def m7_tellsPlayer_L44b (K44 : Int32 → Int64 → Int32 → St → Option (Int64 × St)) (E44_73 : Int32 → Int64 → St → Option (Int64 × St)) (x4 : Int32) (x5 : Int64) (x6 : Int32) (σ : St) : Option (Int64 × St) := if 3 ≤ x6 then (E44_73 x4 x5 σ) else (sy_bd (m7_takesBy x4 x6 σ) (fun r8 σ7 => sy_lt ((31 * x5) + (Int32.toInt64 r8)) (fun v9 => K44 x4 v9 (x6 + 1) σ7)))
def m7_tellsPlayer_L44 (E44_73 : Int32 → Int64 → St → Option (Int64 × St)) : Nat → Int32 → Int64 → Int32 → St → Option (Int64 × St)
  | 0 => fun _ _ _ _ => none
  | n + 1 => m7_tellsPlayer_L44b  (m7_tellsPlayer_L44  E44_73 n) E44_73
set_option maxRecDepth 100000 in
set_option maxHeartbeats 4000000 in
theorem m7_tellsPlayer_L44b_ok {κ : Kx} (hκ : Gd κ cX7_tellsPlayer 7 RX7 (some .long) 8) {K44 : Int32 → Int64 → Int32 → St → Option (Int64 × St)} (hK44 : ∀ (x4 : Int32) (x5 : Int64) (x6 : Int32) (σ : St), Ab sy_vl κ 44 [sy_vr 61, none, none, sy_vi x4, sy_vl x5, none, sy_vi x6] [] σ (K44 x4 x5 x6 σ)) {E44_73 : Int32 → Int64 → St → Option (Int64 × St)} (hE44_73 : ∀ (y3 : Int32) (y4 : Int64) (σ : St), Ab sy_vl κ 73 [sy_vr 61, none, none, sy_vi y3, sy_vl y4, none, none] [] σ (E44_73 y3 y4 σ)) (x4 : Int32) (x5 : Int64) (x6 : Int32) (σ : St) : Ab sy_vl κ 44 [sy_vr 61, none, none, sy_vi x4, sy_vl x5, none, sy_vi x6] [] σ (m7_tellsPlayer_L44b  K44 E44_73 x4 x5 x6 σ) := by
  unfold m7_tellsPlayer_L44b
  refine ab_iload hκ dX7_tellsPlayer_44 rfl ?_
  refine ab_iconst (v := 3) hκ dX7_tellsPlayer_46 rfl ?_
  refine ab_icmp_ge (tgt := 73) hκ dX7_tellsPlayer_47 rfl ?_ ?_
  · refine ab_fg (lv' := [sy_vr 61, none, none, sy_vi x4, sy_vl x5, none, none]) [6] rfl ?_
    exact hE44_73 x4 x5 σ
  · refine ab_ldc2 hκ dX7_tellsPlayer_50 kn_RX7_300 ?_
    refine ab_lload hκ dX7_tellsPlayer_53 rfl ?_
    refine ab_lmul hκ dX7_tellsPlayer_55 ?_
    refine ab_aload_n hκ dX7_tellsPlayer_56 rfl ?_
    refine ab_iload_n hκ dX7_tellsPlayer_57 rfl ?_
    refine ab_iload hκ dX7_tellsPlayer_58 rfl ?_
    refine ab_cVi (vs := [.int x4, .int x6]) (st := [.long (31 * x5)]) hκ dX7_tellsPlayer_60 kl_RX7_213 ki_X7_takesBy kv_X7_takesBy (sy_o7 rfl) rfl rfl (m7_takesBy_ok x4 x6 σ) rfl (by decide) (Nat.le_of_ble_eq_true rfl) rfl (fun r8 σ7 => ?_)
    refine ab_i2l hκ dX7_tellsPlayer_63 ?_
    refine ab_ladd hκ dX7_tellsPlayer_64 ?_
    refine ab_ltl (fun v9 => ?_)
    refine ab_lstore (lv' := [sy_vr 61, none, none, sy_vi x4, sy_vl v9, none, sy_vi x6]) hκ dX7_tellsPlayer_65 (by decide) rfl ?_
    refine ab_iinc (v := (x6 + 1)) (lv' := [sy_vr 61, none, none, sy_vi x4, sy_vl v9, none, sy_vi (x6 + 1)]) hκ dX7_tellsPlayer_67 rfl rfl (by decide) rfl ?_
    refine ab_goto (tgt := 44) hκ dX7_tellsPlayer_70 rfl ?_
    exact hK44 x4 v9 (x6 + 1) σ7
theorem m7_tellsPlayer_L44_ok {κ : Kx} (hκ : Gd κ cX7_tellsPlayer 7 RX7 (some .long) 8) {E44_73 : Int32 → Int64 → St → Option (Int64 × St)} (hE44_73 : ∀ (y3 : Int32) (y4 : Int64) (σ : St), Ab sy_vl κ 73 [sy_vr 61, none, none, sy_vi y3, sy_vl y4, none, none] [] σ (E44_73 y3 y4 σ)) : ∀ (n : Nat) (x4 : Int32) (x5 : Int64) (x6 : Int32) (σ : St), Ab sy_vl κ 44 [sy_vr 61, none, none, sy_vi x4, sy_vl x5, none, sy_vi x6] [] σ (m7_tellsPlayer_L44  E44_73 n x4 x5 x6 σ) := by
  intro n
  induction n with
  | zero => intros; exact ab_none
  | succ n ih => exact fun x4 x5 x6 σ => m7_tellsPlayer_L44b_ok hκ   ih hE44_73 x4 x5 x6 σ
def m7_tellsPlayer (a1 : Int64) (a2 : Int32) (σ : St) : Option (Int64 × St) := sy_bd (m7_lives σ) (fun _ σ1 => sy_gd (2 * a2) 22 (sy_lt ((31 * a1) + (Int32.toInt64 (σ1 68 (sy_ix (2 * a2))))) (fun v2 => sy_gd ((2 * a2) + 1) 22 (sy_lt ((31 * v2) + (Int32.toInt64 (σ1 68 (sy_ix ((2 * a2) + 1))))) (fun v3 => m7_tellsPlayer_L44 (fun y10 y11 σ12 => sy_bd (m7_wasteOf y10 σ12) (fun r14 σ13 => sy_lt ((31 * y11) + (Int32.toInt64 r14)) (fun v15 => sy_bd (m7_sortOf y10 σ13) (fun r17 σ16 => sy_lt ((31 * v15) + (Int32.toInt64 r17)) (fun v18 => sy_bd (m7_askOf y10 σ16) (fun r20 σ19 => some (((31 * v18) + (Int32.toInt64 r20)), σ19))))))) sy_FU a2 v3 0 σ1)))))
set_option maxRecDepth 100000 in
set_option maxHeartbeats 4000000 in
theorem m7_tellsPlayer_ok (a1 : Int64) (a2 : Int32) (σ : St) : Cok sy_vl yX7_tellsPlayer cX7_tellsPlayer 7 (some .long) 8 [.ref 61, .long a1, .int a2] σ (m7_tellsPlayer a1 a2 σ) := by
  refine cok_of (own := RX7) (by decide) rfl (fun ad => Nat.le_of_ble_eq_true rfl) (fun κ hκ => ?_)
  show Ab sy_vl κ 0 [sy_vr 61, sy_vl a1, none, sy_vi a2, none, none, none] [] σ (m7_tellsPlayer a1 a2 σ)
  unfold m7_tellsPlayer
  refine ab_aload_n hκ dX7_tellsPlayer_0 rfl ?_
  refine ab_cVv (vs := []) (st := []) hκ dX7_tellsPlayer_1 kl_RX7_201 ki_X7_lives kv_X7_lives (sy_o7 rfl) rfl rfl (m7_lives_ok σ) rfl (by decide) (Nat.le_of_ble_eq_true rfl) rfl (fun _ σ1 => ?_)
  refine ab_ldc2 hκ dX7_tellsPlayer_4 kn_RX7_300 ?_
  refine ab_lload_n hκ dX7_tellsPlayer_7 rfl ?_
  refine ab_lmul hκ dX7_tellsPlayer_8 ?_
  refine ab_aload_n hκ dX7_tellsPlayer_9 rfl ?_
  refine ab_getf (v := .ref 68) hκ (sy_o7 rfl) kf_RX7_28 rfl dX7_tellsPlayer_10 rfl ?_
  refine ab_iconst (v := 2) hκ dX7_tellsPlayer_13 rfl ?_
  refine ab_iload_n hκ dX7_tellsPlayer_14 rfl ?_
  refine ab_imul hκ dX7_tellsPlayer_15 ?_
  refine ab_iald hκ rfl dX7_tellsPlayer_16 ?_
  refine ab_i2l hκ dX7_tellsPlayer_17 ?_
  refine ab_ladd hκ dX7_tellsPlayer_18 ?_
  refine ab_ltl (fun v2 => ?_)
  refine ab_lstore (lv' := [sy_vr 61, sy_vl a1, none, sy_vi a2, sy_vl v2, none, none]) hκ dX7_tellsPlayer_19 (by decide) rfl ?_
  refine ab_ldc2 hκ dX7_tellsPlayer_21 kn_RX7_300 ?_
  refine ab_lload hκ dX7_tellsPlayer_24 rfl ?_
  refine ab_lmul hκ dX7_tellsPlayer_26 ?_
  refine ab_aload_n hκ dX7_tellsPlayer_27 rfl ?_
  refine ab_getf (v := .ref 68) hκ (sy_o7 rfl) kf_RX7_28 rfl dX7_tellsPlayer_28 rfl ?_
  refine ab_iconst (v := 2) hκ dX7_tellsPlayer_31 rfl ?_
  refine ab_iload_n hκ dX7_tellsPlayer_32 rfl ?_
  refine ab_imul hκ dX7_tellsPlayer_33 ?_
  refine ab_iconst (v := 1) hκ dX7_tellsPlayer_34 rfl ?_
  refine ab_iadd hκ dX7_tellsPlayer_35 ?_
  refine ab_iald hκ rfl dX7_tellsPlayer_36 ?_
  refine ab_i2l hκ dX7_tellsPlayer_37 ?_
  refine ab_ladd hκ dX7_tellsPlayer_38 ?_
  refine ab_ltl (fun v3 => ?_)
  refine ab_lstore (lv' := [sy_vr 61, sy_vl a1, none, sy_vi a2, sy_vl v3, none, none]) hκ dX7_tellsPlayer_39 (by decide) rfl ?_
  refine ab_iconst (v := 0) hκ dX7_tellsPlayer_41 rfl ?_
  refine ab_istore (lv' := [sy_vr 61, sy_vl a1, none, sy_vi a2, sy_vl v3, none, sy_vi 0]) hκ dX7_tellsPlayer_42 (by decide) rfl ?_
  refine ab_fg (lv' := [sy_vr 61, none, none, sy_vi a2, sy_vl v3, none, sy_vi 0]) [1] rfl ?_
  refine m7_tellsPlayer_L44_ok hκ ?_ _ _ _ _ _
  · intro y10 y11 σ12
    refine ab_ldc2 hκ dX7_tellsPlayer_73 kn_RX7_300 ?_
    refine ab_lload hκ dX7_tellsPlayer_76 rfl ?_
    refine ab_lmul hκ dX7_tellsPlayer_78 ?_
    refine ab_aload_n hκ dX7_tellsPlayer_79 rfl ?_
    refine ab_iload_n hκ dX7_tellsPlayer_80 rfl ?_
    refine ab_cVi (vs := [.int y10]) (st := [.long (31 * y11)]) hκ dX7_tellsPlayer_81 kl_RX7_261 ki_X7_wasteOf kv_X7_wasteOf (sy_o7 rfl) rfl rfl (m7_wasteOf_ok y10 σ12) rfl (by decide) (Nat.le_of_ble_eq_true rfl) rfl (fun r14 σ13 => ?_)
    refine ab_i2l hκ dX7_tellsPlayer_84 ?_
    refine ab_ladd hκ dX7_tellsPlayer_85 ?_
    refine ab_ltl (fun v15 => ?_)
    refine ab_lstore (lv' := [sy_vr 61, none, none, sy_vi y10, sy_vl v15, none, none]) hκ dX7_tellsPlayer_86 (by decide) rfl ?_
    refine ab_ldc2 hκ dX7_tellsPlayer_88 kn_RX7_300 ?_
    refine ab_lload hκ dX7_tellsPlayer_91 rfl ?_
    refine ab_lmul hκ dX7_tellsPlayer_93 ?_
    refine ab_aload_n hκ dX7_tellsPlayer_94 rfl ?_
    refine ab_iload_n hκ dX7_tellsPlayer_95 rfl ?_
    refine ab_cVi (vs := [.int y10]) (st := [.long (31 * v15)]) hκ dX7_tellsPlayer_96 kl_RX7_264 ki_X7_sortOf kv_X7_sortOf (sy_o7 rfl) rfl rfl (m7_sortOf_ok y10 σ13) rfl (by decide) (Nat.le_of_ble_eq_true rfl) rfl (fun r17 σ16 => ?_)
    refine ab_i2l hκ dX7_tellsPlayer_99 ?_
    refine ab_ladd hκ dX7_tellsPlayer_100 ?_
    refine ab_ltl (fun v18 => ?_)
    refine ab_lstore (lv' := [sy_vr 61, none, none, sy_vi y10, sy_vl v18, none, none]) hκ dX7_tellsPlayer_101 (by decide) rfl ?_
    refine ab_ldc2 hκ dX7_tellsPlayer_103 kn_RX7_300 ?_
    refine ab_lload hκ dX7_tellsPlayer_106 rfl ?_
    refine ab_lmul hκ dX7_tellsPlayer_108 ?_
    refine ab_aload_n hκ dX7_tellsPlayer_109 rfl ?_
    refine ab_iload_n hκ dX7_tellsPlayer_110 rfl ?_
    refine ab_cVi (vs := [.int y10]) (st := [.long (31 * v18)]) hκ dX7_tellsPlayer_111 kl_RX7_273 ki_X7_askOf kv_X7_askOf (sy_o7 rfl) rfl rfl (m7_askOf_ok y10 σ16) rfl (by decide) (Nat.le_of_ble_eq_true rfl) rfl (fun r20 σ19 => ?_)
    refine ab_i2l hκ dX7_tellsPlayer_114 ?_
    refine ab_ladd hκ dX7_tellsPlayer_115 ?_
    exact ab_lret hκ dX7_tellsPlayer_116
-- BreathBandModel.digest()J, depth 9
def m7_digest_L6b (K6 : Int64 → Int32 → St → Option (Int64 × St)) (E6_31 : Int64 → St → Option (Int64 × St)) (x1 : Int64) (x2 : Int32) (σ : St) : Option (Int64 × St) := if 8 ≤ x2 then (E6_31 x1 σ) else (sy_bd (m7_count x2 σ) (fun r4 σ3 => sy_lt ((31 * x1) + (Int32.toInt64 r4)) (fun v5 => K6 v5 (x2 + 1) σ3)))
def m7_digest_L6 (E6_31 : Int64 → St → Option (Int64 × St)) : Nat → Int64 → Int32 → St → Option (Int64 × St)
  | 0 => fun _ _ _ => none
  | n + 1 => m7_digest_L6b  (m7_digest_L6  E6_31 n) E6_31
set_option maxRecDepth 100000 in
set_option maxHeartbeats 4000000 in
theorem m7_digest_L6b_ok {κ : Kx} (hκ : Gd κ cX7_digest 5 RX7 (some .long) 9) {K6 : Int64 → Int32 → St → Option (Int64 × St)} (hK6 : ∀ (x1 : Int64) (x2 : Int32) (σ : St), Ab sy_vl κ 6 [sy_vr 61, sy_vl x1, none, sy_vi x2, none] [] σ (K6 x1 x2 σ)) {E6_31 : Int64 → St → Option (Int64 × St)} (hE6_31 : ∀ (y1 : Int64) (σ : St), Ab sy_vl κ 31 [sy_vr 61, sy_vl y1, none, none, none] [] σ (E6_31 y1 σ)) (x1 : Int64) (x2 : Int32) (σ : St) : Ab sy_vl κ 6 [sy_vr 61, sy_vl x1, none, sy_vi x2, none] [] σ (m7_digest_L6b  K6 E6_31 x1 x2 σ) := by
  unfold m7_digest_L6b
  refine ab_iload_n hκ dX7_digest_6 rfl ?_
  refine ab_bipush (v := 8) hκ dX7_digest_7 rfl ?_
  refine ab_icmp_ge (tgt := 31) hκ dX7_digest_9 rfl ?_ ?_
  · refine ab_fg (lv' := [sy_vr 61, sy_vl x1, none, none, none]) [3] rfl ?_
    exact hE6_31 x1 σ
  · refine ab_ldc2 hκ dX7_digest_12 kn_RX7_300 ?_
    refine ab_lload_n hκ dX7_digest_15 rfl ?_
    refine ab_lmul hκ dX7_digest_16 ?_
    refine ab_aload_n hκ dX7_digest_17 rfl ?_
    refine ab_iload_n hκ dX7_digest_18 rfl ?_
    refine ab_cVi (vs := [.int x2]) (st := [.long (31 * x1)]) hκ dX7_digest_19 kl_RX7_304 ki_X7_count kv_X7_count (sy_o7 rfl) rfl rfl (m7_count_ok x2 σ) rfl (by decide) (Nat.le_of_ble_eq_true rfl) rfl (fun r4 σ3 => ?_)
    refine ab_i2l hκ dX7_digest_22 ?_
    refine ab_ladd hκ dX7_digest_23 ?_
    refine ab_ltl (fun v5 => ?_)
    refine ab_lstore_n (lv' := [sy_vr 61, sy_vl v5, none, sy_vi x2, none]) hκ dX7_digest_24 rfl (by decide) rfl ?_
    refine ab_iinc (v := (x2 + 1)) (lv' := [sy_vr 61, sy_vl v5, none, sy_vi (x2 + 1), none]) hκ dX7_digest_25 rfl rfl (by decide) rfl ?_
    refine ab_goto (tgt := 6) hκ dX7_digest_28 rfl ?_
    exact hK6 v5 (x2 + 1) σ3
theorem m7_digest_L6_ok {κ : Kx} (hκ : Gd κ cX7_digest 5 RX7 (some .long) 9) {E6_31 : Int64 → St → Option (Int64 × St)} (hE6_31 : ∀ (y1 : Int64) (σ : St), Ab sy_vl κ 31 [sy_vr 61, sy_vl y1, none, none, none] [] σ (E6_31 y1 σ)) : ∀ (n : Nat) (x1 : Int64) (x2 : Int32) (σ : St), Ab sy_vl κ 6 [sy_vr 61, sy_vl x1, none, sy_vi x2, none] [] σ (m7_digest_L6  E6_31 n x1 x2 σ) := by
  intro n
  induction n with
  | zero => intros; exact ab_none
  | succ n ih => exact fun x1 x2 σ => m7_digest_L6b_ok hκ   ih hE6_31 x1 x2 σ
def m7_digest_L33b (K33 : Int64 → Int32 → St → Option (Int64 × St)) (E33_57 : Int64 → St → Option (Int64 × St)) (x8 : Int64) (x9 : Int32) (σ : St) : Option (Int64 × St) := if 2 ≤ x9 then (E33_57 x8 σ) else (sy_bd (m7_readsText x9 σ) (fun r11 σ10 => sy_lt ((31 * x8) + (Int32.toInt64 r11)) (fun v12 => K33 v12 (x9 + 1) σ10)))
def m7_digest_L33 (E33_57 : Int64 → St → Option (Int64 × St)) : Nat → Int64 → Int32 → St → Option (Int64 × St)
  | 0 => fun _ _ _ => none
  | n + 1 => m7_digest_L33b  (m7_digest_L33  E33_57 n) E33_57
set_option maxRecDepth 100000 in
set_option maxHeartbeats 4000000 in
theorem m7_digest_L33b_ok {κ : Kx} (hκ : Gd κ cX7_digest 5 RX7 (some .long) 9) {K33 : Int64 → Int32 → St → Option (Int64 × St)} (hK33 : ∀ (x8 : Int64) (x9 : Int32) (σ : St), Ab sy_vl κ 33 [sy_vr 61, sy_vl x8, none, sy_vi x9, none] [] σ (K33 x8 x9 σ)) {E33_57 : Int64 → St → Option (Int64 × St)} (hE33_57 : ∀ (y1 : Int64) (σ : St), Ab sy_vl κ 57 [sy_vr 61, sy_vl y1, none, none, none] [] σ (E33_57 y1 σ)) (x8 : Int64) (x9 : Int32) (σ : St) : Ab sy_vl κ 33 [sy_vr 61, sy_vl x8, none, sy_vi x9, none] [] σ (m7_digest_L33b  K33 E33_57 x8 x9 σ) := by
  unfold m7_digest_L33b
  refine ab_iload_n hκ dX7_digest_33 rfl ?_
  refine ab_iconst (v := 2) hκ dX7_digest_34 rfl ?_
  refine ab_icmp_ge (tgt := 57) hκ dX7_digest_35 rfl ?_ ?_
  · refine ab_fg (lv' := [sy_vr 61, sy_vl x8, none, none, none]) [3] rfl ?_
    exact hE33_57 x8 σ
  · refine ab_ldc2 hκ dX7_digest_38 kn_RX7_300 ?_
    refine ab_lload_n hκ dX7_digest_41 rfl ?_
    refine ab_lmul hκ dX7_digest_42 ?_
    refine ab_aload_n hκ dX7_digest_43 rfl ?_
    refine ab_iload_n hκ dX7_digest_44 rfl ?_
    refine ab_cVi (vs := [.int x9]) (st := [.long (31 * x8)]) hκ dX7_digest_45 kl_RX7_137 ki_X7_readsText kv_X7_readsText (sy_o7 rfl) rfl rfl (m7_readsText_ok x9 σ) rfl (by decide) (Nat.le_of_ble_eq_true rfl) rfl (fun r11 σ10 => ?_)
    refine ab_i2l hκ dX7_digest_48 ?_
    refine ab_ladd hκ dX7_digest_49 ?_
    refine ab_ltl (fun v12 => ?_)
    refine ab_lstore_n (lv' := [sy_vr 61, sy_vl v12, none, sy_vi x9, none]) hκ dX7_digest_50 rfl (by decide) rfl ?_
    refine ab_iinc (v := (x9 + 1)) (lv' := [sy_vr 61, sy_vl v12, none, sy_vi (x9 + 1), none]) hκ dX7_digest_51 rfl rfl (by decide) rfl ?_
    refine ab_goto (tgt := 33) hκ dX7_digest_54 rfl ?_
    exact hK33 v12 (x9 + 1) σ10
theorem m7_digest_L33_ok {κ : Kx} (hκ : Gd κ cX7_digest 5 RX7 (some .long) 9) {E33_57 : Int64 → St → Option (Int64 × St)} (hE33_57 : ∀ (y1 : Int64) (σ : St), Ab sy_vl κ 57 [sy_vr 61, sy_vl y1, none, none, none] [] σ (E33_57 y1 σ)) : ∀ (n : Nat) (x8 : Int64) (x9 : Int32) (σ : St), Ab sy_vl κ 33 [sy_vr 61, sy_vl x8, none, sy_vi x9, none] [] σ (m7_digest_L33  E33_57 n x8 x9 σ) := by
  intro n
  induction n with
  | zero => intros; exact ab_none
  | succ n ih => exact fun x8 x9 σ => m7_digest_L33b_ok hκ   ih hE33_57 x8 x9 σ
def m7_digest_L72b (K72 : Int64 → Int32 → Int32 → St → Option (Int64 × St)) (E72_99 : Int64 → Int32 → St → Option (Int64 × St)) (x18 : Int64) (x19 : Int32) (x20 : Int32) (σ : St) : Option (Int64 × St) := if 3 ≤ x20 then (E72_99 x18 x19 σ) else (sy_bd (m7_atBy x19 x20 σ) (fun r22 σ21 => sy_lt ((31 * x18) + (Int32.toInt64 r22)) (fun v23 => K72 v23 x19 (x20 + 1) σ21)))
def m7_digest_L72 (E72_99 : Int64 → Int32 → St → Option (Int64 × St)) : Nat → Int64 → Int32 → Int32 → St → Option (Int64 × St)
  | 0 => fun _ _ _ _ => none
  | n + 1 => m7_digest_L72b  (m7_digest_L72  E72_99 n) E72_99
set_option maxRecDepth 100000 in
set_option maxHeartbeats 4000000 in
theorem m7_digest_L72b_ok {κ : Kx} (hκ : Gd κ cX7_digest 5 RX7 (some .long) 9) {K72 : Int64 → Int32 → Int32 → St → Option (Int64 × St)} (hK72 : ∀ (x18 : Int64) (x19 : Int32) (x20 : Int32) (σ : St), Ab sy_vl κ 72 [sy_vr 61, sy_vl x18, none, sy_vi x19, sy_vi x20] [] σ (K72 x18 x19 x20 σ)) {E72_99 : Int64 → Int32 → St → Option (Int64 × St)} (hE72_99 : ∀ (y1 : Int64) (y3 : Int32) (σ : St), Ab sy_vl κ 99 [sy_vr 61, sy_vl y1, none, sy_vi y3, none] [] σ (E72_99 y1 y3 σ)) (x18 : Int64) (x19 : Int32) (x20 : Int32) (σ : St) : Ab sy_vl κ 72 [sy_vr 61, sy_vl x18, none, sy_vi x19, sy_vi x20] [] σ (m7_digest_L72b  K72 E72_99 x18 x19 x20 σ) := by
  unfold m7_digest_L72b
  refine ab_iload hκ dX7_digest_72 rfl ?_
  refine ab_iconst (v := 3) hκ dX7_digest_74 rfl ?_
  refine ab_icmp_ge (tgt := 99) hκ dX7_digest_75 rfl ?_ ?_
  · refine ab_fg (lv' := [sy_vr 61, sy_vl x18, none, sy_vi x19, none]) [4] rfl ?_
    exact hE72_99 x18 x19 σ
  · refine ab_ldc2 hκ dX7_digest_78 kn_RX7_300 ?_
    refine ab_lload_n hκ dX7_digest_81 rfl ?_
    refine ab_lmul hκ dX7_digest_82 ?_
    refine ab_aload_n hκ dX7_digest_83 rfl ?_
    refine ab_iload_n hκ dX7_digest_84 rfl ?_
    refine ab_iload hκ dX7_digest_85 rfl ?_
    refine ab_cVi (vs := [.int x19, .int x20]) (st := [.long (31 * x18)]) hκ dX7_digest_87 kl_RX7_207 ki_X7_atBy kv_X7_atBy (sy_o7 rfl) rfl rfl (m7_atBy_ok x19 x20 σ) rfl (by decide) (Nat.le_of_ble_eq_true rfl) rfl (fun r22 σ21 => ?_)
    refine ab_i2l hκ dX7_digest_90 ?_
    refine ab_ladd hκ dX7_digest_91 ?_
    refine ab_ltl (fun v23 => ?_)
    refine ab_lstore_n (lv' := [sy_vr 61, sy_vl v23, none, sy_vi x19, sy_vi x20]) hκ dX7_digest_92 rfl (by decide) rfl ?_
    refine ab_iinc (v := (x20 + 1)) (lv' := [sy_vr 61, sy_vl v23, none, sy_vi x19, sy_vi (x20 + 1)]) hκ dX7_digest_93 rfl rfl (by decide) rfl ?_
    refine ab_goto (tgt := 72) hκ dX7_digest_96 rfl ?_
    exact hK72 v23 x19 (x20 + 1) σ21
theorem m7_digest_L72_ok {κ : Kx} (hκ : Gd κ cX7_digest 5 RX7 (some .long) 9) {E72_99 : Int64 → Int32 → St → Option (Int64 × St)} (hE72_99 : ∀ (y1 : Int64) (y3 : Int32) (σ : St), Ab sy_vl κ 99 [sy_vr 61, sy_vl y1, none, sy_vi y3, none] [] σ (E72_99 y1 y3 σ)) : ∀ (n : Nat) (x18 : Int64) (x19 : Int32) (x20 : Int32) (σ : St), Ab sy_vl κ 72 [sy_vr 61, sy_vl x18, none, sy_vi x19, sy_vi x20] [] σ (m7_digest_L72  E72_99 n x18 x19 x20 σ) := by
  intro n
  induction n with
  | zero => intros; exact ab_none
  | succ n ih => exact fun x18 x19 x20 σ => m7_digest_L72b_ok hκ   ih hE72_99 x18 x19 x20 σ
def m7_digest_L63b (K63 : Int64 → Int32 → St → Option (Int64 × St)) (E63_105 : Int64 → St → Option (Int64 × St)) (x16 : Int64) (x17 : Int32) (σ : St) : Option (Int64 × St) := if 24 ≤ x17 then (E63_105 x16 σ) else (m7_digest_L72 (fun y24 y25 σ26 => K63 y24 (y25 + 1) σ26) sy_FU x16 x17 0 σ)
def m7_digest_L63 (E63_105 : Int64 → St → Option (Int64 × St)) : Nat → Int64 → Int32 → St → Option (Int64 × St)
  | 0 => fun _ _ _ => none
  | n + 1 => m7_digest_L63b  (m7_digest_L63  E63_105 n) E63_105
set_option maxRecDepth 100000 in
set_option maxHeartbeats 4000000 in
theorem m7_digest_L63b_ok {κ : Kx} (hκ : Gd κ cX7_digest 5 RX7 (some .long) 9) {K63 : Int64 → Int32 → St → Option (Int64 × St)} (hK63 : ∀ (x16 : Int64) (x17 : Int32) (σ : St), Ab sy_vl κ 63 [sy_vr 61, sy_vl x16, none, sy_vi x17, none] [] σ (K63 x16 x17 σ)) {E63_105 : Int64 → St → Option (Int64 × St)} (hE63_105 : ∀ (y1 : Int64) (σ : St), Ab sy_vl κ 105 [sy_vr 61, sy_vl y1, none, none, none] [] σ (E63_105 y1 σ)) (x16 : Int64) (x17 : Int32) (σ : St) : Ab sy_vl κ 63 [sy_vr 61, sy_vl x16, none, sy_vi x17, none] [] σ (m7_digest_L63b  K63 E63_105 x16 x17 σ) := by
  unfold m7_digest_L63b
  refine ab_iload_n hκ dX7_digest_63 rfl ?_
  refine ab_bipush (v := 24) hκ dX7_digest_64 rfl ?_
  refine ab_icmp_ge (tgt := 105) hκ dX7_digest_66 rfl ?_ ?_
  · refine ab_fg (lv' := [sy_vr 61, sy_vl x16, none, none, none]) [3] rfl ?_
    exact hE63_105 x16 σ
  · refine ab_iconst (v := 0) hκ dX7_digest_69 rfl ?_
    refine ab_istore (lv' := [sy_vr 61, sy_vl x16, none, sy_vi x17, sy_vi 0]) hκ dX7_digest_70 (by decide) rfl ?_
    refine m7_digest_L72_ok hκ ?_ _ _ _ _ _
    · intro y24 y25 σ26
      refine ab_iinc (v := (y25 + 1)) (lv' := [sy_vr 61, sy_vl y24, none, sy_vi (y25 + 1), none]) hκ dX7_digest_99 rfl rfl (by decide) rfl ?_
      refine ab_goto (tgt := 63) hκ dX7_digest_102 rfl ?_
      exact hK63 y24 (y25 + 1) σ26
theorem m7_digest_L63_ok {κ : Kx} (hκ : Gd κ cX7_digest 5 RX7 (some .long) 9) {E63_105 : Int64 → St → Option (Int64 × St)} (hE63_105 : ∀ (y1 : Int64) (σ : St), Ab sy_vl κ 105 [sy_vr 61, sy_vl y1, none, none, none] [] σ (E63_105 y1 σ)) : ∀ (n : Nat) (x16 : Int64) (x17 : Int32) (σ : St), Ab sy_vl κ 63 [sy_vr 61, sy_vl x16, none, sy_vi x17, none] [] σ (m7_digest_L63  E63_105 n x16 x17 σ) := by
  intro n
  induction n with
  | zero => intros; exact ab_none
  | succ n ih => exact fun x16 x17 σ => m7_digest_L63b_ok hκ   ih hE63_105 x16 x17 σ
def m7_digest_L107b (K107 : Int64 → Int32 → St → Option (Int64 × St)) (E107_147 : Int64 → St → Option (Int64 × St)) (x29 : Int64) (x30 : Int32) (σ : St) : Option (Int64 × St) := if 16 ≤ x30 then (E107_147 x29 σ) else (sy_bd (m7_noteBy x30 0 σ) (fun r32 σ31 => sy_lt ((31 * x29) + (Int32.toInt64 r32)) (fun v33 => sy_bd (m7_noteBy x30 1 σ31) (fun r35 σ34 => sy_lt ((31 * v33) + (Int32.toInt64 r35)) (fun v36 => K107 v36 (x30 + 1) σ34)))))
def m7_digest_L107 (E107_147 : Int64 → St → Option (Int64 × St)) : Nat → Int64 → Int32 → St → Option (Int64 × St)
  | 0 => fun _ _ _ => none
  | n + 1 => m7_digest_L107b  (m7_digest_L107  E107_147 n) E107_147
set_option maxRecDepth 100000 in
set_option maxHeartbeats 4000000 in
theorem m7_digest_L107b_ok {κ : Kx} (hκ : Gd κ cX7_digest 5 RX7 (some .long) 9) {K107 : Int64 → Int32 → St → Option (Int64 × St)} (hK107 : ∀ (x29 : Int64) (x30 : Int32) (σ : St), Ab sy_vl κ 107 [sy_vr 61, sy_vl x29, none, sy_vi x30, none] [] σ (K107 x29 x30 σ)) {E107_147 : Int64 → St → Option (Int64 × St)} (hE107_147 : ∀ (y1 : Int64) (σ : St), Ab sy_vl κ 147 [sy_vr 61, sy_vl y1, none, none, none] [] σ (E107_147 y1 σ)) (x29 : Int64) (x30 : Int32) (σ : St) : Ab sy_vl κ 107 [sy_vr 61, sy_vl x29, none, sy_vi x30, none] [] σ (m7_digest_L107b  K107 E107_147 x29 x30 σ) := by
  unfold m7_digest_L107b
  refine ab_iload_n hκ dX7_digest_107 rfl ?_
  refine ab_bipush (v := 16) hκ dX7_digest_108 rfl ?_
  refine ab_icmp_ge (tgt := 147) hκ dX7_digest_110 rfl ?_ ?_
  · refine ab_fg (lv' := [sy_vr 61, sy_vl x29, none, none, none]) [3] rfl ?_
    exact hE107_147 x29 σ
  · refine ab_ldc2 hκ dX7_digest_113 kn_RX7_300 ?_
    refine ab_lload_n hκ dX7_digest_116 rfl ?_
    refine ab_lmul hκ dX7_digest_117 ?_
    refine ab_aload_n hκ dX7_digest_118 rfl ?_
    refine ab_iload_n hκ dX7_digest_119 rfl ?_
    refine ab_iconst (v := 0) hκ dX7_digest_120 rfl ?_
    refine ab_cVi (vs := [.int x30, .int 0]) (st := [.long (31 * x29)]) hκ dX7_digest_121 kl_RX7_147 ki_X7_noteBy kv_X7_noteBy (sy_o7 rfl) rfl rfl (m7_noteBy_ok x30 0 σ) rfl (by decide) (Nat.le_of_ble_eq_true rfl) rfl (fun r32 σ31 => ?_)
    refine ab_i2l hκ dX7_digest_124 ?_
    refine ab_ladd hκ dX7_digest_125 ?_
    refine ab_ltl (fun v33 => ?_)
    refine ab_lstore_n (lv' := [sy_vr 61, sy_vl v33, none, sy_vi x30, none]) hκ dX7_digest_126 rfl (by decide) rfl ?_
    refine ab_ldc2 hκ dX7_digest_127 kn_RX7_300 ?_
    refine ab_lload_n hκ dX7_digest_130 rfl ?_
    refine ab_lmul hκ dX7_digest_131 ?_
    refine ab_aload_n hκ dX7_digest_132 rfl ?_
    refine ab_iload_n hκ dX7_digest_133 rfl ?_
    refine ab_iconst (v := 1) hκ dX7_digest_134 rfl ?_
    refine ab_cVi (vs := [.int x30, .int 1]) (st := [.long (31 * v33)]) hκ dX7_digest_135 kl_RX7_147 ki_X7_noteBy kv_X7_noteBy (sy_o7 rfl) rfl rfl (m7_noteBy_ok x30 1 σ31) rfl (by decide) (Nat.le_of_ble_eq_true rfl) rfl (fun r35 σ34 => ?_)
    refine ab_i2l hκ dX7_digest_138 ?_
    refine ab_ladd hκ dX7_digest_139 ?_
    refine ab_ltl (fun v36 => ?_)
    refine ab_lstore_n (lv' := [sy_vr 61, sy_vl v36, none, sy_vi x30, none]) hκ dX7_digest_140 rfl (by decide) rfl ?_
    refine ab_iinc (v := (x30 + 1)) (lv' := [sy_vr 61, sy_vl v36, none, sy_vi (x30 + 1), none]) hκ dX7_digest_141 rfl rfl (by decide) rfl ?_
    refine ab_goto (tgt := 107) hκ dX7_digest_144 rfl ?_
    exact hK107 v36 (x30 + 1) σ34
theorem m7_digest_L107_ok {κ : Kx} (hκ : Gd κ cX7_digest 5 RX7 (some .long) 9) {E107_147 : Int64 → St → Option (Int64 × St)} (hE107_147 : ∀ (y1 : Int64) (σ : St), Ab sy_vl κ 147 [sy_vr 61, sy_vl y1, none, none, none] [] σ (E107_147 y1 σ)) : ∀ (n : Nat) (x29 : Int64) (x30 : Int32) (σ : St), Ab sy_vl κ 107 [sy_vr 61, sy_vl x29, none, sy_vi x30, none] [] σ (m7_digest_L107  E107_147 n x29 x30 σ) := by
  intro n
  induction n with
  | zero => intros; exact ab_none
  | succ n ih => exact fun x29 x30 σ => m7_digest_L107b_ok hκ   ih hE107_147 x29 x30 σ
def m7_digest_L149b (K149 : Int64 → Int32 → St → Option (Int64 × St)) (E149_170 : Int64 → St → Option (Int64 × St)) (x39 : Int64) (x40 : Int32) (σ : St) : Option (Int64 × St) := if (σ 61 9) ≤ x40 then (E149_170 x39 σ) else (sy_bd (m7_tellsNote x39 x40 σ) (fun r42 σ41 => K149 r42 (x40 + 1) σ41))
def m7_digest_L149 (E149_170 : Int64 → St → Option (Int64 × St)) : Nat → Int64 → Int32 → St → Option (Int64 × St)
  | 0 => fun _ _ _ => none
  | n + 1 => m7_digest_L149b  (m7_digest_L149  E149_170 n) E149_170
set_option maxRecDepth 100000 in
set_option maxHeartbeats 4000000 in
theorem m7_digest_L149b_ok {κ : Kx} (hκ : Gd κ cX7_digest 5 RX7 (some .long) 9) {K149 : Int64 → Int32 → St → Option (Int64 × St)} (hK149 : ∀ (x39 : Int64) (x40 : Int32) (σ : St), Ab sy_vl κ 149 [sy_vr 61, sy_vl x39, none, sy_vi x40, none] [] σ (K149 x39 x40 σ)) {E149_170 : Int64 → St → Option (Int64 × St)} (hE149_170 : ∀ (y1 : Int64) (σ : St), Ab sy_vl κ 170 [sy_vr 61, sy_vl y1, none, none, none] [] σ (E149_170 y1 σ)) (x39 : Int64) (x40 : Int32) (σ : St) : Ab sy_vl κ 149 [sy_vr 61, sy_vl x39, none, sy_vi x40, none] [] σ (m7_digest_L149b  K149 E149_170 x39 x40 σ) := by
  unfold m7_digest_L149b
  refine ab_iload_n hκ dX7_digest_149 rfl ?_
  refine ab_aload_n hκ dX7_digest_150 rfl ?_
  refine ab_getf (v := .int (σ 61 9)) hκ (sy_o7 rfl) kf_RX7_124 rfl dX7_digest_151 rfl ?_
  refine ab_icmp_ge (tgt := 170) hκ dX7_digest_154 rfl ?_ ?_
  · refine ab_fg (lv' := [sy_vr 61, sy_vl x39, none, none, none]) [3] rfl ?_
    exact hE149_170 x39 σ
  · refine ab_aload_n hκ dX7_digest_157 rfl ?_
    refine ab_lload_n hκ dX7_digest_158 rfl ?_
    refine ab_iload_n hκ dX7_digest_159 rfl ?_
    refine ab_cVl (vs := [.long x39, .int x40]) (st := []) hκ dX7_digest_160 kl_RX7_307 ki_X7_tellsNote kv_X7_tellsNote (sy_o7 rfl) rfl rfl (m7_tellsNote_ok x39 x40 σ) rfl (by decide) (Nat.le_of_ble_eq_true rfl) rfl (fun r42 σ41 => ?_)
    refine ab_lstore_n (lv' := [sy_vr 61, sy_vl r42, none, sy_vi x40, none]) hκ dX7_digest_163 rfl (by decide) rfl ?_
    refine ab_iinc (v := (x40 + 1)) (lv' := [sy_vr 61, sy_vl r42, none, sy_vi (x40 + 1), none]) hκ dX7_digest_164 rfl rfl (by decide) rfl ?_
    refine ab_goto (tgt := 149) hκ dX7_digest_167 rfl ?_
    exact hK149 r42 (x40 + 1) σ41
theorem m7_digest_L149_ok {κ : Kx} (hκ : Gd κ cX7_digest 5 RX7 (some .long) 9) {E149_170 : Int64 → St → Option (Int64 × St)} (hE149_170 : ∀ (y1 : Int64) (σ : St), Ab sy_vl κ 170 [sy_vr 61, sy_vl y1, none, none, none] [] σ (E149_170 y1 σ)) : ∀ (n : Nat) (x39 : Int64) (x40 : Int32) (σ : St), Ab sy_vl κ 149 [sy_vr 61, sy_vl x39, none, sy_vi x40, none] [] σ (m7_digest_L149  E149_170 n x39 x40 σ) := by
  intro n
  induction n with
  | zero => intros; exact ab_none
  | succ n ih => exact fun x39 x40 σ => m7_digest_L149b_ok hκ   ih hE149_170 x39 x40 σ
def m7_digest_L172b (K172 : Int64 → Int32 → St → Option (Int64 × St)) (E172_193 : Int64 → St → Option (Int64 × St)) (x45 : Int64) (x46 : Int32) (σ : St) : Option (Int64 × St) := if (σ 61 7) ≤ x46 then (E172_193 x45 σ) else (sy_bd (m7_tellsPlayer x45 x46 σ) (fun r48 σ47 => K172 r48 (x46 + 1) σ47))
def m7_digest_L172 (E172_193 : Int64 → St → Option (Int64 × St)) : Nat → Int64 → Int32 → St → Option (Int64 × St)
  | 0 => fun _ _ _ => none
  | n + 1 => m7_digest_L172b  (m7_digest_L172  E172_193 n) E172_193
set_option maxRecDepth 100000 in
set_option maxHeartbeats 4000000 in
theorem m7_digest_L172b_ok {κ : Kx} (hκ : Gd κ cX7_digest 5 RX7 (some .long) 9) {K172 : Int64 → Int32 → St → Option (Int64 × St)} (hK172 : ∀ (x45 : Int64) (x46 : Int32) (σ : St), Ab sy_vl κ 172 [sy_vr 61, sy_vl x45, none, sy_vi x46, none] [] σ (K172 x45 x46 σ)) {E172_193 : Int64 → St → Option (Int64 × St)} (hE172_193 : ∀ (y1 : Int64) (σ : St), Ab sy_vl κ 193 [sy_vr 61, sy_vl y1, none, none, none] [] σ (E172_193 y1 σ)) (x45 : Int64) (x46 : Int32) (σ : St) : Ab sy_vl κ 172 [sy_vr 61, sy_vl x45, none, sy_vi x46, none] [] σ (m7_digest_L172b  K172 E172_193 x45 x46 σ) := by
  unfold m7_digest_L172b
  refine ab_iload_n hκ dX7_digest_172 rfl ?_
  refine ab_aload_n hκ dX7_digest_173 rfl ?_
  refine ab_getf (v := .int (σ 61 7)) hκ (sy_o7 rfl) kf_RX7_113 rfl dX7_digest_174 rfl ?_
  refine ab_icmp_ge (tgt := 193) hκ dX7_digest_177 rfl ?_ ?_
  · refine ab_fg (lv' := [sy_vr 61, sy_vl x45, none, none, none]) [3] rfl ?_
    exact hE172_193 x45 σ
  · refine ab_aload_n hκ dX7_digest_180 rfl ?_
    refine ab_lload_n hκ dX7_digest_181 rfl ?_
    refine ab_iload_n hκ dX7_digest_182 rfl ?_
    refine ab_cVl (vs := [.long x45, .int x46]) (st := []) hκ dX7_digest_183 kl_RX7_311 ki_X7_tellsPlayer kv_X7_tellsPlayer (sy_o7 rfl) rfl rfl (m7_tellsPlayer_ok x45 x46 σ) rfl (by decide) (Nat.le_of_ble_eq_true rfl) rfl (fun r48 σ47 => ?_)
    refine ab_lstore_n (lv' := [sy_vr 61, sy_vl r48, none, sy_vi x46, none]) hκ dX7_digest_186 rfl (by decide) rfl ?_
    refine ab_iinc (v := (x46 + 1)) (lv' := [sy_vr 61, sy_vl r48, none, sy_vi (x46 + 1), none]) hκ dX7_digest_187 rfl rfl (by decide) rfl ?_
    refine ab_goto (tgt := 172) hκ dX7_digest_190 rfl ?_
    exact hK172 r48 (x46 + 1) σ47
theorem m7_digest_L172_ok {κ : Kx} (hκ : Gd κ cX7_digest 5 RX7 (some .long) 9) {E172_193 : Int64 → St → Option (Int64 × St)} (hE172_193 : ∀ (y1 : Int64) (σ : St), Ab sy_vl κ 193 [sy_vr 61, sy_vl y1, none, none, none] [] σ (E172_193 y1 σ)) : ∀ (n : Nat) (x45 : Int64) (x46 : Int32) (σ : St), Ab sy_vl κ 172 [sy_vr 61, sy_vl x45, none, sy_vi x46, none] [] σ (m7_digest_L172  E172_193 n x45 x46 σ) := by
  intro n
  induction n with
  | zero => intros; exact ab_none
  | succ n ih => exact fun x45 x46 σ => m7_digest_L172b_ok hκ   ih hE172_193 x45 x46 σ
def m7_digest_L199b (K199 : Int64 → Int32 → St → Option (Int64 × St)) (E199_223 : Int64 → St → Option (Int64 × St)) (x52 : Int64) (x53 : Int32) (σ : St) : Option (Int64 × St) := if 3 ≤ x53 then (E199_223 x52 σ) else (sy_bd (m7_sumBy x53 σ) (fun r55 σ54 => sy_lt ((31 * x52) + (Int32.toInt64 r55)) (fun v56 => K199 v56 (x53 + 1) σ54)))
def m7_digest_L199 (E199_223 : Int64 → St → Option (Int64 × St)) : Nat → Int64 → Int32 → St → Option (Int64 × St)
  | 0 => fun _ _ _ => none
  | n + 1 => m7_digest_L199b  (m7_digest_L199  E199_223 n) E199_223
set_option maxRecDepth 100000 in
set_option maxHeartbeats 4000000 in
theorem m7_digest_L199b_ok {κ : Kx} (hκ : Gd κ cX7_digest 5 RX7 (some .long) 9) {K199 : Int64 → Int32 → St → Option (Int64 × St)} (hK199 : ∀ (x52 : Int64) (x53 : Int32) (σ : St), Ab sy_vl κ 199 [sy_vr 61, sy_vl x52, none, sy_vi x53, none] [] σ (K199 x52 x53 σ)) {E199_223 : Int64 → St → Option (Int64 × St)} (hE199_223 : ∀ (y1 : Int64) (σ : St), Ab sy_vl κ 223 [sy_vr 61, sy_vl y1, none, none, none] [] σ (E199_223 y1 σ)) (x52 : Int64) (x53 : Int32) (σ : St) : Ab sy_vl κ 199 [sy_vr 61, sy_vl x52, none, sy_vi x53, none] [] σ (m7_digest_L199b  K199 E199_223 x52 x53 σ) := by
  unfold m7_digest_L199b
  refine ab_iload_n hκ dX7_digest_199 rfl ?_
  refine ab_iconst (v := 3) hκ dX7_digest_200 rfl ?_
  refine ab_icmp_ge (tgt := 223) hκ dX7_digest_201 rfl ?_ ?_
  · refine ab_fg (lv' := [sy_vr 61, sy_vl x52, none, none, none]) [3] rfl ?_
    exact hE199_223 x52 σ
  · refine ab_ldc2 hκ dX7_digest_204 kn_RX7_300 ?_
    refine ab_lload_n hκ dX7_digest_207 rfl ?_
    refine ab_lmul hκ dX7_digest_208 ?_
    refine ab_aload_n hκ dX7_digest_209 rfl ?_
    refine ab_iload_n hκ dX7_digest_210 rfl ?_
    refine ab_cVi (vs := [.int x53]) (st := [.long (31 * x52)]) hκ dX7_digest_211 kl_RX7_219 ki_X7_sumBy kv_X7_sumBy (sy_o7 rfl) rfl rfl (m7_sumBy_ok x53 σ) rfl (by decide) (Nat.le_of_ble_eq_true rfl) rfl (fun r55 σ54 => ?_)
    refine ab_i2l hκ dX7_digest_214 ?_
    refine ab_ladd hκ dX7_digest_215 ?_
    refine ab_ltl (fun v56 => ?_)
    refine ab_lstore_n (lv' := [sy_vr 61, sy_vl v56, none, sy_vi x53, none]) hκ dX7_digest_216 rfl (by decide) rfl ?_
    refine ab_iinc (v := (x53 + 1)) (lv' := [sy_vr 61, sy_vl v56, none, sy_vi (x53 + 1), none]) hκ dX7_digest_217 rfl rfl (by decide) rfl ?_
    refine ab_goto (tgt := 199) hκ dX7_digest_220 rfl ?_
    exact hK199 v56 (x53 + 1) σ54
theorem m7_digest_L199_ok {κ : Kx} (hκ : Gd κ cX7_digest 5 RX7 (some .long) 9) {E199_223 : Int64 → St → Option (Int64 × St)} (hE199_223 : ∀ (y1 : Int64) (σ : St), Ab sy_vl κ 223 [sy_vr 61, sy_vl y1, none, none, none] [] σ (E199_223 y1 σ)) : ∀ (n : Nat) (x52 : Int64) (x53 : Int32) (σ : St), Ab sy_vl κ 199 [sy_vr 61, sy_vl x52, none, sy_vi x53, none] [] σ (m7_digest_L199  E199_223 n x52 x53 σ) := by
  intro n
  induction n with
  | zero => intros; exact ab_none
  | succ n ih => exact fun x52 x53 σ => m7_digest_L199b_ok hκ   ih hE199_223 x52 x53 σ
def m7_digest_L287b (K287 : Int64 → Int32 → St → Option (Int64 × St)) (E287_311 : Int64 → St → Option (Int64 × St)) (x74 : Int64) (x75 : Int32) (σ : St) : Option (Int64 × St) := if 3 ≤ x75 then (E287_311 x74 σ) else (sy_bd (m7_swapBy x75 σ) (fun r77 σ76 => sy_lt ((31 * x74) + (Int32.toInt64 r77)) (fun v78 => K287 v78 (x75 + 1) σ76)))
def m7_digest_L287 (E287_311 : Int64 → St → Option (Int64 × St)) : Nat → Int64 → Int32 → St → Option (Int64 × St)
  | 0 => fun _ _ _ => none
  | n + 1 => m7_digest_L287b  (m7_digest_L287  E287_311 n) E287_311
set_option maxRecDepth 100000 in
set_option maxHeartbeats 4000000 in
theorem m7_digest_L287b_ok {κ : Kx} (hκ : Gd κ cX7_digest 5 RX7 (some .long) 9) {K287 : Int64 → Int32 → St → Option (Int64 × St)} (hK287 : ∀ (x74 : Int64) (x75 : Int32) (σ : St), Ab sy_vl κ 287 [sy_vr 61, sy_vl x74, none, sy_vi x75, none] [] σ (K287 x74 x75 σ)) {E287_311 : Int64 → St → Option (Int64 × St)} (hE287_311 : ∀ (y1 : Int64) (σ : St), Ab sy_vl κ 311 [sy_vr 61, sy_vl y1, none, none, none] [] σ (E287_311 y1 σ)) (x74 : Int64) (x75 : Int32) (σ : St) : Ab sy_vl κ 287 [sy_vr 61, sy_vl x74, none, sy_vi x75, none] [] σ (m7_digest_L287b  K287 E287_311 x74 x75 σ) := by
  unfold m7_digest_L287b
  refine ab_iload_n hκ dX7_digest_287 rfl ?_
  refine ab_iconst (v := 3) hκ dX7_digest_288 rfl ?_
  refine ab_icmp_ge (tgt := 311) hκ dX7_digest_289 rfl ?_ ?_
  · refine ab_fg (lv' := [sy_vr 61, sy_vl x74, none, none, none]) [3] rfl ?_
    exact hE287_311 x74 σ
  · refine ab_ldc2 hκ dX7_digest_292 kn_RX7_300 ?_
    refine ab_lload_n hκ dX7_digest_295 rfl ?_
    refine ab_lmul hκ dX7_digest_296 ?_
    refine ab_aload_n hκ dX7_digest_297 rfl ?_
    refine ab_iload_n hκ dX7_digest_298 rfl ?_
    refine ab_cVi (vs := [.int x75]) (st := [.long (31 * x74)]) hκ dX7_digest_299 kl_RX7_237 ki_X7_swapBy kv_X7_swapBy (sy_o7 rfl) rfl rfl (m7_swapBy_ok x75 σ) rfl (by decide) (Nat.le_of_ble_eq_true rfl) rfl (fun r77 σ76 => ?_)
    refine ab_i2l hκ dX7_digest_302 ?_
    refine ab_ladd hκ dX7_digest_303 ?_
    refine ab_ltl (fun v78 => ?_)
    refine ab_lstore_n (lv' := [sy_vr 61, sy_vl v78, none, sy_vi x75, none]) hκ dX7_digest_304 rfl (by decide) rfl ?_
    refine ab_iinc (v := (x75 + 1)) (lv' := [sy_vr 61, sy_vl v78, none, sy_vi (x75 + 1), none]) hκ dX7_digest_305 rfl rfl (by decide) rfl ?_
    refine ab_goto (tgt := 287) hκ dX7_digest_308 rfl ?_
    exact hK287 v78 (x75 + 1) σ76
theorem m7_digest_L287_ok {κ : Kx} (hκ : Gd κ cX7_digest 5 RX7 (some .long) 9) {E287_311 : Int64 → St → Option (Int64 × St)} (hE287_311 : ∀ (y1 : Int64) (σ : St), Ab sy_vl κ 311 [sy_vr 61, sy_vl y1, none, none, none] [] σ (E287_311 y1 σ)) : ∀ (n : Nat) (x74 : Int64) (x75 : Int32) (σ : St), Ab sy_vl κ 287 [sy_vr 61, sy_vl x74, none, sy_vi x75, none] [] σ (m7_digest_L287  E287_311 n x74 x75 σ) := by
  intro n
  induction n with
  | zero => intros; exact ab_none
  | succ n ih => exact fun x74 x75 σ => m7_digest_L287b_ok hκ   ih hE287_311 x74 x75 σ
def m7_digest (σ : St) : Option (Int64 × St) := m7_digest_L6 (fun y6 σ7 => m7_digest_L33 (fun y13 σ14 => sy_bd (m7_lives σ14) (fun _ σ15 => m7_digest_L63 (fun y27 σ28 => m7_digest_L107 (fun y37 σ38 => m7_digest_L149 (fun y43 σ44 => m7_digest_L172 (fun y49 σ50 => sy_bd (m7_lives σ50) (fun _ σ51 => m7_digest_L199 (fun y57 σ58 => sy_bd (m7_flatNow σ58) (fun r60 σ59 => sy_lt ((31 * y57) + (Int32.toInt64 r60)) (fun v61 => sy_bd (m7_silentNow σ59) (fun r63 σ62 => sy_lt ((31 * v61) + (Int32.toInt64 r63)) (fun v64 => sy_bd (m7_greedyNow σ62) (fun r66 σ65 => sy_lt ((31 * v64) + (Int32.toInt64 r66)) (fun v67 => sy_bd (m7_fillBy 0 σ65) (fun r69 σ68 => sy_lt ((31 * v67) + (Int32.toInt64 r69)) (fun v70 => sy_bd (m7_fillBy 1 σ68) (fun r72 σ71 => sy_lt ((31 * v70) + (Int32.toInt64 r72)) (fun v73 => m7_digest_L287 (fun y79 σ80 => sy_bd (m7_holdBy 0 σ80) (fun r82 σ81 => sy_lt ((31 * y79) + (Int32.toInt64 r82)) (fun v83 => sy_bd (m7_holdBy 1 σ81) (fun r85 σ84 => sy_lt ((31 * v83) + (Int32.toInt64 r85)) (fun v86 => sy_bd (m7_spareBy (-1) σ84) (fun r88 σ87 => sy_lt ((31 * v86) + (Int32.toInt64 r88)) (fun v89 => sy_bd (m7_spareBy 0 σ87) (fun r91 σ90 => sy_lt ((31 * v89) + (Int32.toInt64 r91)) (fun v92 => sy_bd (m7_neverNow σ90) (fun r94 σ93 => sy_lt ((31 * v92) + (Int32.toInt64 r94)) (fun v95 => sy_bd (m7_yearsOf 7 12 0 σ93) (fun r97 σ96 => sy_lt ((31 * v95) + (Int32.toInt64 r97)) (fun v98 => sy_bd (m7_yearsOf 7 12 1 σ96) (fun r100 σ99 => some (((31 * v98) + (Int32.toInt64 r100)), σ99))))))))))))))) sy_FU v73 0 σ71))))))))))) sy_FU y49 0 σ51)) sy_FU y43 0 σ44) sy_FU y37 0 σ38) sy_FU y27 0 σ28) sy_FU y13 0 σ15)) sy_FU y6 0 σ7) sy_FU 17 0 σ
set_option maxRecDepth 100000 in
set_option maxHeartbeats 4000000 in
theorem m7_digest_ok (σ : St) : Cok sy_vl yX7_digest cX7_digest 5 (some .long) 9 [.ref 61] σ (m7_digest σ) := by
  refine cok_of (own := RX7) (by decide) rfl (fun ad => Nat.le_of_ble_eq_true rfl) (fun κ hκ => ?_)
  show Ab sy_vl κ 0 [sy_vr 61, none, none, none, none] [] σ (m7_digest σ)
  unfold m7_digest
  refine ab_ldc2 hκ dX7_digest_0 kn_RX7_302 ?_
  refine ab_lstore_n (lv' := [sy_vr 61, sy_vl 17, none, none, none]) hκ dX7_digest_3 rfl (by decide) rfl ?_
  refine ab_iconst (v := 0) hκ dX7_digest_4 rfl ?_
  refine ab_istore_n (lv' := [sy_vr 61, sy_vl 17, none, sy_vi 0, none]) hκ dX7_digest_5 rfl (by decide) rfl ?_
  refine m7_digest_L6_ok hκ ?_ _ _ _ _
  · intro y6 σ7
    refine ab_iconst (v := 0) hκ dX7_digest_31 rfl ?_
    refine ab_istore_n (lv' := [sy_vr 61, sy_vl y6, none, sy_vi 0, none]) hκ dX7_digest_32 rfl (by decide) rfl ?_
    refine m7_digest_L33_ok hκ ?_ _ _ _ _
    · intro y13 σ14
      refine ab_aload_n hκ dX7_digest_57 rfl ?_
      refine ab_cVv (vs := []) (st := []) hκ dX7_digest_58 kl_RX7_201 ki_X7_lives kv_X7_lives (sy_o7 rfl) rfl rfl (m7_lives_ok σ14) rfl (by decide) (Nat.le_of_ble_eq_true rfl) rfl (fun _ σ15 => ?_)
      refine ab_iconst (v := 0) hκ dX7_digest_61 rfl ?_
      refine ab_istore_n (lv' := [sy_vr 61, sy_vl y13, none, sy_vi 0, none]) hκ dX7_digest_62 rfl (by decide) rfl ?_
      refine m7_digest_L63_ok hκ ?_ _ _ _ _
      · intro y27 σ28
        refine ab_iconst (v := 0) hκ dX7_digest_105 rfl ?_
        refine ab_istore_n (lv' := [sy_vr 61, sy_vl y27, none, sy_vi 0, none]) hκ dX7_digest_106 rfl (by decide) rfl ?_
        refine m7_digest_L107_ok hκ ?_ _ _ _ _
        · intro y37 σ38
          refine ab_iconst (v := 0) hκ dX7_digest_147 rfl ?_
          refine ab_istore_n (lv' := [sy_vr 61, sy_vl y37, none, sy_vi 0, none]) hκ dX7_digest_148 rfl (by decide) rfl ?_
          refine m7_digest_L149_ok hκ ?_ _ _ _ _
          · intro y43 σ44
            refine ab_iconst (v := 0) hκ dX7_digest_170 rfl ?_
            refine ab_istore_n (lv' := [sy_vr 61, sy_vl y43, none, sy_vi 0, none]) hκ dX7_digest_171 rfl (by decide) rfl ?_
            refine m7_digest_L172_ok hκ ?_ _ _ _ _
            · intro y49 σ50
              refine ab_aload_n hκ dX7_digest_193 rfl ?_
              refine ab_cVv (vs := []) (st := []) hκ dX7_digest_194 kl_RX7_201 ki_X7_lives kv_X7_lives (sy_o7 rfl) rfl rfl (m7_lives_ok σ50) rfl (by decide) (Nat.le_of_ble_eq_true rfl) rfl (fun _ σ51 => ?_)
              refine ab_iconst (v := 0) hκ dX7_digest_197 rfl ?_
              refine ab_istore_n (lv' := [sy_vr 61, sy_vl y49, none, sy_vi 0, none]) hκ dX7_digest_198 rfl (by decide) rfl ?_
              refine m7_digest_L199_ok hκ ?_ _ _ _ _
              · intro y57 σ58
                refine ab_ldc2 hκ dX7_digest_223 kn_RX7_300 ?_
                refine ab_lload_n hκ dX7_digest_226 rfl ?_
                refine ab_lmul hκ dX7_digest_227 ?_
                refine ab_aload_n hκ dX7_digest_228 rfl ?_
                refine ab_cVi (vs := []) (st := [.long (31 * y57)]) hκ dX7_digest_229 kl_RX7_222 ki_X7_flatNow kv_X7_flatNow (sy_o7 rfl) rfl rfl (m7_flatNow_ok σ58) rfl (by decide) (Nat.le_of_ble_eq_true rfl) rfl (fun r60 σ59 => ?_)
                refine ab_i2l hκ dX7_digest_232 ?_
                refine ab_ladd hκ dX7_digest_233 ?_
                refine ab_ltl (fun v61 => ?_)
                refine ab_lstore_n (lv' := [sy_vr 61, sy_vl v61, none, none, none]) hκ dX7_digest_234 rfl (by decide) rfl ?_
                refine ab_ldc2 hκ dX7_digest_235 kn_RX7_300 ?_
                refine ab_lload_n hκ dX7_digest_238 rfl ?_
                refine ab_lmul hκ dX7_digest_239 ?_
                refine ab_aload_n hκ dX7_digest_240 rfl ?_
                refine ab_cVi (vs := []) (st := [.long (31 * v61)]) hκ dX7_digest_241 kl_RX7_225 ki_X7_silentNow kv_X7_silentNow (sy_o7 rfl) rfl rfl (m7_silentNow_ok σ59) rfl (by decide) (Nat.le_of_ble_eq_true rfl) rfl (fun r63 σ62 => ?_)
                refine ab_i2l hκ dX7_digest_244 ?_
                refine ab_ladd hκ dX7_digest_245 ?_
                refine ab_ltl (fun v64 => ?_)
                refine ab_lstore_n (lv' := [sy_vr 61, sy_vl v64, none, none, none]) hκ dX7_digest_246 rfl (by decide) rfl ?_
                refine ab_ldc2 hκ dX7_digest_247 kn_RX7_300 ?_
                refine ab_lload_n hκ dX7_digest_250 rfl ?_
                refine ab_lmul hκ dX7_digest_251 ?_
                refine ab_aload_n hκ dX7_digest_252 rfl ?_
                refine ab_cVi (vs := []) (st := [.long (31 * v64)]) hκ dX7_digest_253 kl_RX7_231 ki_X7_greedyNow kv_X7_greedyNow (sy_o7 rfl) rfl rfl (m7_greedyNow_ok σ62) rfl (by decide) (Nat.le_of_ble_eq_true rfl) rfl (fun r66 σ65 => ?_)
                refine ab_i2l hκ dX7_digest_256 ?_
                refine ab_ladd hκ dX7_digest_257 ?_
                refine ab_ltl (fun v67 => ?_)
                refine ab_lstore_n (lv' := [sy_vr 61, sy_vl v67, none, none, none]) hκ dX7_digest_258 rfl (by decide) rfl ?_
                refine ab_ldc2 hκ dX7_digest_259 kn_RX7_300 ?_
                refine ab_lload_n hκ dX7_digest_262 rfl ?_
                refine ab_lmul hκ dX7_digest_263 ?_
                refine ab_aload_n hκ dX7_digest_264 rfl ?_
                refine ab_iconst (v := 0) hκ dX7_digest_265 rfl ?_
                refine ab_cVi (vs := [.int 0]) (st := [.long (31 * v67)]) hκ dX7_digest_266 kl_RX7_234 ki_X7_fillBy kv_X7_fillBy (sy_o7 rfl) rfl rfl (m7_fillBy_ok 0 σ65) rfl (by decide) (Nat.le_of_ble_eq_true rfl) rfl (fun r69 σ68 => ?_)
                refine ab_i2l hκ dX7_digest_269 ?_
                refine ab_ladd hκ dX7_digest_270 ?_
                refine ab_ltl (fun v70 => ?_)
                refine ab_lstore_n (lv' := [sy_vr 61, sy_vl v70, none, none, none]) hκ dX7_digest_271 rfl (by decide) rfl ?_
                refine ab_ldc2 hκ dX7_digest_272 kn_RX7_300 ?_
                refine ab_lload_n hκ dX7_digest_275 rfl ?_
                refine ab_lmul hκ dX7_digest_276 ?_
                refine ab_aload_n hκ dX7_digest_277 rfl ?_
                refine ab_iconst (v := 1) hκ dX7_digest_278 rfl ?_
                refine ab_cVi (vs := [.int 1]) (st := [.long (31 * v70)]) hκ dX7_digest_279 kl_RX7_234 ki_X7_fillBy kv_X7_fillBy (sy_o7 rfl) rfl rfl (m7_fillBy_ok 1 σ68) rfl (by decide) (Nat.le_of_ble_eq_true rfl) rfl (fun r72 σ71 => ?_)
                refine ab_i2l hκ dX7_digest_282 ?_
                refine ab_ladd hκ dX7_digest_283 ?_
                refine ab_ltl (fun v73 => ?_)
                refine ab_lstore_n (lv' := [sy_vr 61, sy_vl v73, none, none, none]) hκ dX7_digest_284 rfl (by decide) rfl ?_
                refine ab_iconst (v := 0) hκ dX7_digest_285 rfl ?_
                refine ab_istore_n (lv' := [sy_vr 61, sy_vl v73, none, sy_vi 0, none]) hκ dX7_digest_286 rfl (by decide) rfl ?_
                refine m7_digest_L287_ok hκ ?_ _ _ _ _
                · intro y79 σ80
                  refine ab_ldc2 hκ dX7_digest_311 kn_RX7_300 ?_
                  refine ab_lload_n hκ dX7_digest_314 rfl ?_
                  refine ab_lmul hκ dX7_digest_315 ?_
                  refine ab_aload_n hκ dX7_digest_316 rfl ?_
                  refine ab_iconst (v := 0) hκ dX7_digest_317 rfl ?_
                  refine ab_cVi (vs := [.int 0]) (st := [.long (31 * y79)]) hκ dX7_digest_318 kl_RX7_240 ki_X7_holdBy kv_X7_holdBy (sy_o7 rfl) rfl rfl (m7_holdBy_ok 0 σ80) rfl (by decide) (Nat.le_of_ble_eq_true rfl) rfl (fun r82 σ81 => ?_)
                  refine ab_i2l hκ dX7_digest_321 ?_
                  refine ab_ladd hκ dX7_digest_322 ?_
                  refine ab_ltl (fun v83 => ?_)
                  refine ab_lstore_n (lv' := [sy_vr 61, sy_vl v83, none, none, none]) hκ dX7_digest_323 rfl (by decide) rfl ?_
                  refine ab_ldc2 hκ dX7_digest_324 kn_RX7_300 ?_
                  refine ab_lload_n hκ dX7_digest_327 rfl ?_
                  refine ab_lmul hκ dX7_digest_328 ?_
                  refine ab_aload_n hκ dX7_digest_329 rfl ?_
                  refine ab_iconst (v := 1) hκ dX7_digest_330 rfl ?_
                  refine ab_cVi (vs := [.int 1]) (st := [.long (31 * v83)]) hκ dX7_digest_331 kl_RX7_240 ki_X7_holdBy kv_X7_holdBy (sy_o7 rfl) rfl rfl (m7_holdBy_ok 1 σ81) rfl (by decide) (Nat.le_of_ble_eq_true rfl) rfl (fun r85 σ84 => ?_)
                  refine ab_i2l hκ dX7_digest_334 ?_
                  refine ab_ladd hκ dX7_digest_335 ?_
                  refine ab_ltl (fun v86 => ?_)
                  refine ab_lstore_n (lv' := [sy_vr 61, sy_vl v86, none, none, none]) hκ dX7_digest_336 rfl (by decide) rfl ?_
                  refine ab_ldc2 hκ dX7_digest_337 kn_RX7_300 ?_
                  refine ab_lload_n hκ dX7_digest_340 rfl ?_
                  refine ab_lmul hκ dX7_digest_341 ?_
                  refine ab_aload_n hκ dX7_digest_342 rfl ?_
                  refine ab_iconst (v := (-1)) hκ dX7_digest_343 rfl ?_
                  refine ab_cVi (vs := [.int (-1)]) (st := [.long (31 * v86)]) hκ dX7_digest_344 kl_RX7_248 ki_X7_spareBy kv_X7_spareBy (sy_o7 rfl) rfl rfl (m7_spareBy_ok (-1) σ84) rfl (by decide) (Nat.le_of_ble_eq_true rfl) rfl (fun r88 σ87 => ?_)
                  refine ab_i2l hκ dX7_digest_347 ?_
                  refine ab_ladd hκ dX7_digest_348 ?_
                  refine ab_ltl (fun v89 => ?_)
                  refine ab_lstore_n (lv' := [sy_vr 61, sy_vl v89, none, none, none]) hκ dX7_digest_349 rfl (by decide) rfl ?_
                  refine ab_ldc2 hκ dX7_digest_350 kn_RX7_300 ?_
                  refine ab_lload_n hκ dX7_digest_353 rfl ?_
                  refine ab_lmul hκ dX7_digest_354 ?_
                  refine ab_aload_n hκ dX7_digest_355 rfl ?_
                  refine ab_iconst (v := 0) hκ dX7_digest_356 rfl ?_
                  refine ab_cVi (vs := [.int 0]) (st := [.long (31 * v89)]) hκ dX7_digest_357 kl_RX7_248 ki_X7_spareBy kv_X7_spareBy (sy_o7 rfl) rfl rfl (m7_spareBy_ok 0 σ87) rfl (by decide) (Nat.le_of_ble_eq_true rfl) rfl (fun r91 σ90 => ?_)
                  refine ab_i2l hκ dX7_digest_360 ?_
                  refine ab_ladd hκ dX7_digest_361 ?_
                  refine ab_ltl (fun v92 => ?_)
                  refine ab_lstore_n (lv' := [sy_vr 61, sy_vl v92, none, none, none]) hκ dX7_digest_362 rfl (by decide) rfl ?_
                  refine ab_ldc2 hκ dX7_digest_363 kn_RX7_300 ?_
                  refine ab_lload_n hκ dX7_digest_366 rfl ?_
                  refine ab_lmul hκ dX7_digest_367 ?_
                  refine ab_aload_n hκ dX7_digest_368 rfl ?_
                  refine ab_cVi (vs := []) (st := [.long (31 * v92)]) hκ dX7_digest_369 kl_RX7_258 ki_X7_neverNow kv_X7_neverNow (sy_o7 rfl) rfl rfl (m7_neverNow_ok σ90) rfl (by decide) (Nat.le_of_ble_eq_true rfl) rfl (fun r94 σ93 => ?_)
                  refine ab_i2l hκ dX7_digest_372 ?_
                  refine ab_ladd hκ dX7_digest_373 ?_
                  refine ab_ltl (fun v95 => ?_)
                  refine ab_lstore_n (lv' := [sy_vr 61, sy_vl v95, none, none, none]) hκ dX7_digest_374 rfl (by decide) rfl ?_
                  refine ab_ldc2 hκ dX7_digest_375 kn_RX7_300 ?_
                  refine ab_lload_n hκ dX7_digest_378 rfl ?_
                  refine ab_lmul hκ dX7_digest_379 ?_
                  refine ab_aload_n hκ dX7_digest_380 rfl ?_
                  refine ab_bipush (v := 7) hκ dX7_digest_381 rfl ?_
                  refine ab_bipush (v := 12) hκ dX7_digest_383 rfl ?_
                  refine ab_iconst (v := 0) hκ dX7_digest_385 rfl ?_
                  refine ab_cVi (vs := [.int 7, .int 12, .int 0]) (st := [.long (31 * v95)]) hκ dX7_digest_386 kl_RX7_297 ki_X7_yearsOf kv_X7_yearsOf (sy_o7 rfl) rfl rfl (m7_yearsOf_ok 7 12 0 σ93) rfl (by decide) (Nat.le_of_ble_eq_true rfl) rfl (fun r97 σ96 => ?_)
                  refine ab_i2l hκ dX7_digest_389 ?_
                  refine ab_ladd hκ dX7_digest_390 ?_
                  refine ab_ltl (fun v98 => ?_)
                  refine ab_lstore_n (lv' := [sy_vr 61, sy_vl v98, none, none, none]) hκ dX7_digest_391 rfl (by decide) rfl ?_
                  refine ab_ldc2 hκ dX7_digest_392 kn_RX7_300 ?_
                  refine ab_lload_n hκ dX7_digest_395 rfl ?_
                  refine ab_lmul hκ dX7_digest_396 ?_
                  refine ab_aload_n hκ dX7_digest_397 rfl ?_
                  refine ab_bipush (v := 7) hκ dX7_digest_398 rfl ?_
                  refine ab_bipush (v := 12) hκ dX7_digest_400 rfl ?_
                  refine ab_iconst (v := 1) hκ dX7_digest_402 rfl ?_
                  refine ab_cVi (vs := [.int 7, .int 12, .int 1]) (st := [.long (31 * v98)]) hκ dX7_digest_403 kl_RX7_297 ki_X7_yearsOf kv_X7_yearsOf (sy_o7 rfl) rfl rfl (m7_yearsOf_ok 7 12 1 σ96) rfl (by decide) (Nat.le_of_ble_eq_true rfl) rfl (fun r100 σ99 => ?_)
                  refine ab_i2l hκ dX7_digest_406 ?_
                  refine ab_ladd hκ dX7_digest_407 ?_
                  exact ab_lret hκ dX7_digest_408
