-- BreathBand.within(III)Z, depth 0
def m6_within (a1 : Int32) (a2 : Int32) (a3 : Int32) (σ : St) : Option (Int32 × St) := if a1 < a2 then (sy_zg 0 (some (0, σ))) else (if a3 < a1 then (sy_zg 0 (some (0, σ))) else (sy_zg 1 (some (1, σ))))
set_option maxRecDepth 100000 in
set_option maxHeartbeats 4000000 in
theorem m6_within_ok (a1 : Int32) (a2 : Int32) (a3 : Int32) (σ : St) : Cok sy_vi yX6_within cX6_within 3 (some .boolean) 0 [.int a1, .int a2, .int a3] σ (m6_within a1 a2 a3 σ) := by
  refine cok_of (own := RX6) (by decide) rfl (fun ad => Nat.le_of_ble_eq_true rfl) (fun κ hκ => ?_)
  show Ab sy_vi κ 0 [sy_vi a1, sy_vi a2, sy_vi a3] [] σ (m6_within a1 a2 a3 σ)
  unfold m6_within
  refine ab_iload_n hκ dX6_within_0 rfl ?_
  refine ab_iload_n hκ dX6_within_1 rfl ?_
  refine ab_icmp_lt (tgt := 14) hκ dX6_within_2 rfl ?_ ?_
  · refine ab_iconst (v := 0) hκ dX6_within_14 rfl ?_
    exact ab_zret hκ dX6_within_15
  · refine ab_iload_n hκ dX6_within_5 rfl ?_
    refine ab_iload_n hκ dX6_within_6 rfl ?_
    refine ab_icmp_gt (tgt := 14) hκ dX6_within_7 rfl ?_ ?_
    · refine ab_iconst (v := 0) hκ dX6_within_14 rfl ?_
      exact ab_zret hκ dX6_within_15
    · refine ab_iconst (v := 1) hκ dX6_within_10 rfl ?_
      refine ab_goto (tgt := 15) hκ dX6_within_11 rfl ?_
      exact ab_zret hκ dX6_within_15
-- BreathBand.textOf(I)LBreathBand$Text;, depth 0
def m6_textOf (a1 : Int32) (σ : St) : Option (Nat × St) := if a1 = 0 then (some (1, σ)) else (some (3, σ))
set_option maxRecDepth 100000 in
set_option maxHeartbeats 4000000 in
theorem m6_textOf_ok (a1 : Int32) (σ : St) : Cok sy_vr yX6_textOf cX6_textOf 2 (some (.object "BreathBand$Text")) 0 [.ref 0, .int a1] σ (m6_textOf a1 σ) := by
  refine cok_of (own := RX6) (by decide) rfl (fun ad => Nat.le_of_ble_eq_true rfl) (fun κ hκ => ?_)
  show Ab sy_vr κ 0 [sy_vr 0, sy_vi a1] [] σ (m6_textOf a1 σ)
  unfold m6_textOf
  refine ab_iload_n hκ dX6_textOf_0 rfl ?_
  refine ab_if_ne (tgt := 11) hκ dX6_textOf_1 rfl ?_ ?_
  · refine ab_aload_n hκ dX6_textOf_11 rfl ?_
    refine ab_getf (v := .ref 3) hκ (sy_o6 rfl) kf_RX6_18 rfl dX6_textOf_12 rfl ?_
    exact ab_aret hκ dX6_textOf_15
  · refine ab_aload_n hκ dX6_textOf_4 rfl ?_
    refine ab_getf (v := .ref 1) hκ (sy_o6 rfl) kf_RX6_14 rfl dX6_textOf_5 rfl ?_
    refine ab_goto (tgt := 15) hκ dX6_textOf_8 rfl ?_
    exact ab_aret hκ dX6_textOf_15
-- BreathBand$Text.append(I)Z, depth 0
def m5_append (this : Nat) (a1 : Int32) (σ : St) : Option (Int32 × St) := if (σ this 4) < (σ this 1) then (sy_gd (σ this 4) 47 (sy_lt (sy_sf σ (this + 1) (sy_ix (σ this 4)) a1) (fun σ1 => sy_lt (sy_sf σ1 this 4 ((σ1 this 4) + 1)) (fun σ2 => sy_zg 1 (some (1, σ2)))))) else (sy_zg 0 (some (0, σ)))
set_option maxRecDepth 100000 in
set_option maxHeartbeats 4000000 in
theorem m5_append_ok (this : Nat) (a1 : Int32) (hthis : sy_is5 this) (σ : St) : Cok sy_vi yX5_append cX5_append 2 (some .boolean) 0 [.ref this, .int a1] σ (m5_append this a1 σ) := by
  refine cok_of (own := RX5) (by decide) rfl (fun ad => Nat.le_of_ble_eq_true rfl) (fun κ hκ => ?_)
  show Ab sy_vi κ 0 [sy_vr this, sy_vi a1] [] σ (m5_append this a1 σ)
  unfold m5_append
  refine ab_aload_n hκ dX5_append_0 rfl ?_
  refine ab_getf (v := .int (σ this 4)) hκ (sy_o5 hthis) kf_RX5_15 rfl dX5_append_1 rfl ?_
  refine ab_aload_n hκ dX5_append_4 rfl ?_
  refine ab_getf (v := .int (σ this 1)) hκ (sy_o5 hthis) kf_RX5_23 rfl dX5_append_5 rfl ?_
  refine ab_icmp_lt (tgt := 13) hκ dX5_append_8 rfl ?_ ?_
  · refine ab_aload_n hκ dX5_append_13 rfl ?_
    refine ab_getf (v := .ref (this + 1)) hκ (sy_o5 hthis) kf_RX5_9 rfl dX5_append_14 rfl ?_
    refine ab_aload_n hκ dX5_append_17 rfl ?_
    refine ab_getf (v := .int (σ this 4)) hκ (sy_o5 hthis) kf_RX5_15 rfl dX5_append_18 rfl ?_
    refine ab_iload_n hκ dX5_append_21 rfl ?_
    refine ab_iast hκ (sy_a5_3 hthis) dX5_append_22 ?_
    refine ab_lts (fun σ1 => ?_)
    refine ab_aload_n hκ dX5_append_23 rfl ?_
    refine ab_dupa hκ dX5_append_24 ?_
    refine ab_getf (v := .int (σ1 this 4)) hκ (sy_o5 hthis) kf_RX5_15 rfl dX5_append_25 rfl ?_
    refine ab_iconst (v := 1) hκ dX5_append_28 rfl ?_
    refine ab_iadd hκ dX5_append_29 ?_
    refine ab_putf hκ (sy_o5 hthis) kp_RX5_15 rfl dX5_append_30 ?_
    refine ab_lts (fun σ2 => ?_)
    refine ab_iconst (v := 1) hκ dX5_append_33 rfl ?_
    exact ab_zret hκ dX5_append_34
  · refine ab_iconst (v := 0) hκ dX5_append_11 rfl ?_
    exact ab_zret hκ dX5_append_12
-- BreathBand$Text.upTo(ICI)I, depth 0
def m5_upTo (a1 : Int32) (a2 : Int32) (a3 : Int32) (σ : St) : Option (Int32 × St) := if a1 < a2 then (some ((-1), σ)) else (if (a2 + a3) ≤ a1 then (some ((-1), σ)) else (some ((a1 - a2), σ)))
set_option maxRecDepth 100000 in
set_option maxHeartbeats 4000000 in
theorem m5_upTo_ok (a1 : Int32) (a2 : Int32) (a3 : Int32) (σ : St) : Cok sy_vi yX5_upTo cX5_upTo 3 (some .int) 0 [.int a1, .int a2, .int a3] σ (m5_upTo a1 a2 a3 σ) := by
  refine cok_of (own := RX5) (by decide) rfl (fun ad => Nat.le_of_ble_eq_true rfl) (fun κ hκ => ?_)
  show Ab sy_vi κ 0 [sy_vi a1, sy_vi a2, sy_vi a3] [] σ (m5_upTo a1 a2 a3 σ)
  unfold m5_upTo
  refine ab_iload_n hκ dX5_upTo_0 rfl ?_
  refine ab_iload_n hκ dX5_upTo_1 rfl ?_
  refine ab_icmp_lt (tgt := 18) hκ dX5_upTo_2 rfl ?_ ?_
  · refine ab_iconst (v := (-1)) hκ dX5_upTo_18 rfl ?_
    exact ab_iret hκ dX5_upTo_19
  · refine ab_iload_n hκ dX5_upTo_5 rfl ?_
    refine ab_iload_n hκ dX5_upTo_6 rfl ?_
    refine ab_iload_n hκ dX5_upTo_7 rfl ?_
    refine ab_iadd hκ dX5_upTo_8 ?_
    refine ab_icmp_ge (tgt := 18) hκ dX5_upTo_9 rfl ?_ ?_
    · refine ab_iconst (v := (-1)) hκ dX5_upTo_18 rfl ?_
      exact ab_iret hκ dX5_upTo_19
    · refine ab_iload_n hκ dX5_upTo_12 rfl ?_
      refine ab_iload_n hκ dX5_upTo_13 rfl ?_
      refine ab_isub hκ dX5_upTo_14 ?_
      refine ab_goto (tgt := 19) hκ dX5_upTo_15 rfl ?_
      exact ab_iret hκ dX5_upTo_19
-- BreathBand$Text.sortOf(I)I, depth 0
def m5_sortOf (a1 : Int32) (σ : St) : Option (Int32 × St) := if a1 = 99 then (some (2, σ)) else (if a1 = 104 then (some (1, σ)) else (if a1 = 116 then (some (0, σ)) else (some ((-1), σ))))
set_option maxRecDepth 100000 in
set_option maxHeartbeats 4000000 in
theorem m5_sortOf_ok (a1 : Int32) (σ : St) : Cok sy_vi yX5_sortOf cX5_sortOf 1 (some .int) 0 [.int a1] σ (m5_sortOf a1 σ) := by
  refine cok_of (own := RX5) (by decide) rfl (fun ad => Nat.le_of_ble_eq_true rfl) (fun κ hκ => ?_)
  show Ab sy_vi κ 0 [sy_vi a1] [] σ (m5_sortOf a1 σ)
  unfold m5_sortOf
  refine ab_iload_n hκ dX5_sortOf_0 rfl ?_
  refine ab_if (fun h1 => ?_) (fun h1 => ?_)
  · refine ab_lsw (off := 39) (tgt := 40) hκ dX5_sortOf_1 rfl (by rw [h1]; rfl) rfl ?_
    refine ab_iconst (v := 2) hκ dX5_sortOf_40 rfl ?_
    exact ab_iret hκ dX5_sortOf_41
  · refine ab_if (fun h2 => ?_) (fun h2 => ?_)
    · refine ab_lsw (off := 37) (tgt := 38) hκ dX5_sortOf_1 rfl (by rw [h2]; rfl) rfl ?_
      refine ab_iconst (v := 1) hκ dX5_sortOf_38 rfl ?_
      exact ab_iret hκ dX5_sortOf_39
    · refine ab_if (fun h3 => ?_) (fun h3 => ?_)
      · refine ab_lsw (off := 35) (tgt := 36) hκ dX5_sortOf_1 rfl (by rw [h3]; rfl) rfl ?_
        refine ab_iconst (v := 0) hκ dX5_sortOf_36 rfl ?_
        exact ab_iret hκ dX5_sortOf_37
      · refine ab_lsw (off := 41) (tgt := 42) hκ dX5_sortOf_1 rfl (by show Op.lookupswitch.offset [(99, 39), (104, 37), (116, 35)] 41 _ = _; rw [lv_osw (a := 99) h1 (by decide), lv_osw (a := 104) h2 (by decide), lv_osw (a := 116) h3 (by decide)]; rfl) rfl ?_
        refine ab_iconst (v := (-1)) hκ dX5_sortOf_42 rfl ?_
        exact ab_iret hκ dX5_sortOf_43
-- BreathBand$Text.meaning(II)I, depth 1
def m5_meaning (this : Nat) (a1 : Int32) (a2 : Int32) (σ : St) : Option (Int32 × St) := if (σ this 0) = 0 then (if a2 = 0 then (sy_bd (m5_sortOf a1 σ) (fun r4 σ3 => some (r4, σ3))) else (sy_bd (m5_upTo a1 48 4 σ) (fun r2 σ1 => some (r2, σ1)))) else (if a2 = 0 then (sy_bd (m5_upTo a1 97 24 σ) (fun r8 σ7 => some (r8, σ7))) else (sy_bd (m5_upTo a1 97 11 σ) (fun r6 σ5 => some (r6, σ5))))
set_option maxRecDepth 100000 in
set_option maxHeartbeats 4000000 in
theorem m5_meaning_ok (this : Nat) (a1 : Int32) (a2 : Int32) (hthis : sy_is5 this) (σ : St) : Cok sy_vi yX5_meaning cX5_meaning 3 (some .int) 1 [.ref this, .int a1, .int a2] σ (m5_meaning this a1 a2 σ) := by
  refine cok_of (own := RX5) (by decide) rfl (fun ad => Nat.le_of_ble_eq_true rfl) (fun κ hκ => ?_)
  show Ab sy_vi κ 0 [sy_vr this, sy_vi a1, sy_vi a2] [] σ (m5_meaning this a1 a2 σ)
  unfold m5_meaning
  refine ab_aload_n hκ dX5_meaning_0 rfl ?_
  refine ab_getf (v := .int (σ this 0)) hκ (sy_o5 hthis) kf_RX5_19 rfl dX5_meaning_1 rfl ?_
  refine ab_if_eq (tgt := 25) hκ dX5_meaning_4 rfl ?_ ?_
  · refine ab_iload_n hκ dX5_meaning_25 rfl ?_
    refine ab_if_ne (tgt := 36) hκ dX5_meaning_26 rfl ?_ ?_
    · refine ab_iload_n hκ dX5_meaning_36 rfl ?_
      refine ab_bipush (v := 48) hκ dX5_meaning_37 rfl ?_
      refine ab_iconst (v := 4) hκ dX5_meaning_39 rfl ?_
      refine ab_cSi (vs := [.int a1, .int 48, .int 4]) (st := []) hκ dX5_meaning_40 kl_RX5_37 ki_X5_upTo kv_X5_upTo (m5_upTo_ok a1 48 4 σ) rfl (by decide) (Nat.le_of_ble_eq_true rfl) rfl (fun r2 σ1 => ?_)
      exact ab_iret hκ dX5_meaning_43
    · refine ab_iload_n hκ dX5_meaning_29 rfl ?_
      refine ab_cSi (vs := [.int a1]) (st := []) hκ dX5_meaning_30 kl_RX5_41 ki_X5_sortOf kv_X5_sortOf (m5_sortOf_ok a1 σ) rfl (by decide) (Nat.le_of_ble_eq_true rfl) rfl (fun r4 σ3 => ?_)
      refine ab_goto (tgt := 43) hκ dX5_meaning_33 rfl ?_
      exact ab_iret hκ dX5_meaning_43
  · refine ab_iload_n hκ dX5_meaning_7 rfl ?_
    refine ab_bipush (v := 97) hκ dX5_meaning_8 rfl ?_
    refine ab_iload_n hκ dX5_meaning_10 rfl ?_
    refine ab_if_ne (tgt := 19) hκ dX5_meaning_11 rfl ?_ ?_
    · refine ab_bipush (v := 11) hκ dX5_meaning_19 rfl ?_
      refine ab_cSi (vs := [.int a1, .int 97, .int 11]) (st := []) hκ dX5_meaning_21 kl_RX5_37 ki_X5_upTo kv_X5_upTo (m5_upTo_ok a1 97 11 σ) rfl (by decide) (Nat.le_of_ble_eq_true rfl) rfl (fun r6 σ5 => ?_)
      exact ab_iret hκ dX5_meaning_24
    · refine ab_bipush (v := 24) hκ dX5_meaning_14 rfl ?_
      refine ab_goto (tgt := 21) hκ dX5_meaning_16 rfl ?_
      refine ab_cSi (vs := [.int a1, .int 97, .int 24]) (st := []) hκ dX5_meaning_21 kl_RX5_37 ki_X5_upTo kv_X5_upTo (m5_upTo_ok a1 97 24 σ) rfl (by decide) (Nat.le_of_ble_eq_true rfl) rfl (fun r8 σ7 => ?_)
      exact ab_iret hκ dX5_meaning_24
-- BreathBand$Text.mayStand(II)Z, depth 2
def m5_mayStand (this : Nat) (a1 : Int32) (a2 : Int32) (σ : St) : Option (Int32 × St) := if a2 = 2 then (if a1 = 59 then (sy_zg 1 (some (1, σ))) else (sy_zg 0 (some (0, σ)))) else (sy_bd (m5_meaning this a1 a2 σ) (fun r2 σ1 => if r2 = (-1) then (sy_zg 0 (some (0, σ1))) else (sy_zg 1 (some (1, σ1)))))
set_option maxRecDepth 100000 in
set_option maxHeartbeats 4000000 in
theorem m5_mayStand_ok (this : Nat) (a1 : Int32) (a2 : Int32) (hthis : sy_is5 this) (σ : St) : Cok sy_vi yX5_mayStand cX5_mayStand 3 (some .boolean) 2 [.ref this, .int a1, .int a2] σ (m5_mayStand this a1 a2 σ) := by
  refine cok_of (own := RX5) (by decide) rfl (fun ad => Nat.le_of_ble_eq_true rfl) (fun κ hκ => ?_)
  show Ab sy_vi κ 0 [sy_vr this, sy_vi a1, sy_vi a2] [] σ (m5_mayStand this a1 a2 σ)
  unfold m5_mayStand
  refine ab_iload_n hκ dX5_mayStand_0 rfl ?_
  refine ab_iconst (v := 2) hκ dX5_mayStand_1 rfl ?_
  refine ab_icmp_ne (tgt := 19) hκ dX5_mayStand_2 rfl ?_ ?_
  · refine ab_aload_n hκ dX5_mayStand_19 rfl ?_
    refine ab_iload_n hκ dX5_mayStand_20 rfl ?_
    refine ab_iload_n hκ dX5_mayStand_21 rfl ?_
    refine ab_cVi (vs := [.int a1, .int a2]) (st := []) hκ dX5_mayStand_22 kl_RX5_45 ki_X5_meaning kv_X5_meaning (sy_o5 hthis) rfl rfl (m5_meaning_ok this a1 a2 hthis σ) rfl (by decide) (Nat.le_of_ble_eq_true rfl) rfl (fun r2 σ1 => ?_)
    refine ab_iconst (v := (-1)) hκ dX5_mayStand_25 rfl ?_
    refine ab_icmp_eq (tgt := 33) hκ dX5_mayStand_26 rfl ?_ ?_
    · refine ab_iconst (v := 0) hκ dX5_mayStand_33 rfl ?_
      exact ab_zret hκ dX5_mayStand_34
    · refine ab_iconst (v := 1) hκ dX5_mayStand_29 rfl ?_
      refine ab_goto (tgt := 34) hκ dX5_mayStand_30 rfl ?_
      exact ab_zret hκ dX5_mayStand_34
  · refine ab_iload_n hκ dX5_mayStand_5 rfl ?_
    refine ab_bipush (v := 59) hκ dX5_mayStand_6 rfl ?_
    refine ab_icmp_ne (tgt := 15) hκ dX5_mayStand_8 rfl ?_ ?_
    · refine ab_iconst (v := 0) hκ dX5_mayStand_15 rfl ?_
      refine ab_goto (tgt := 34) hκ dX5_mayStand_16 rfl ?_
      exact ab_zret hκ dX5_mayStand_34
    · refine ab_iconst (v := 1) hκ dX5_mayStand_11 rfl ?_
      refine ab_goto (tgt := 34) hκ dX5_mayStand_12 rfl ?_
      exact ab_zret hκ dX5_mayStand_34
-- BreathBand$Text.faultPlace()I, depth 3
def m5_faultPlace_L2b (c1 : Nat) (K2 : Int32 → St → Option (Int32 × St)) (E2_36 : Int32 → St → Option (Int32 × St)) (E2_44 : St → Option (Int32 × St)) (x3 : Int32) (σ : St) : Option (Int32 × St) := if (σ c1 4) ≤ x3 then (E2_44  σ) else (sy_dv 3 (if (σ c1 2) ≤ (x3 / 3) then (E2_36 x3 σ) else (sy_gd x3 47 (sy_dv 3 (sy_bd (m5_mayStand c1 (σ (c1 + 1) (sy_ix x3)) (x3 - x3 / 3 * 3) σ) (fun r5 σ4 => if r5 = 0 then (E2_36 x3 σ4) else (K2 (x3 + 1) σ4)))))))
def m5_faultPlace_L2 (c1 : Nat) (E2_36 : Int32 → St → Option (Int32 × St)) (E2_44 : St → Option (Int32 × St)) : Nat → Int32 → St → Option (Int32 × St)
  | 0 => fun _ _ => none
  | n + 1 => m5_faultPlace_L2b c1 (m5_faultPlace_L2 c1 E2_36 E2_44 n) E2_36 E2_44
set_option maxRecDepth 100000 in
set_option maxHeartbeats 4000000 in
theorem m5_faultPlace_L2b_ok {κ : Kx} (hκ : Gd κ cX5_faultPlace 2 RX5 (some .int) 3) (c1 : Nat) (h2 : sy_is5 c1) {K2 : Int32 → St → Option (Int32 × St)} (hK2 : ∀ (x3 : Int32) (σ : St), Ab sy_vi κ 2 [sy_vr c1, sy_vi x3] [] σ (K2 x3 σ)) {E2_36 : Int32 → St → Option (Int32 × St)} (hE2_36 : ∀ (y1 : Int32) (σ : St), Ab sy_vi κ 36 [none, sy_vi y1] [] σ (E2_36 y1 σ)) {E2_44 : St → Option (Int32 × St)} (hE2_44 : ∀ (σ : St), Ab sy_vi κ 44 [sy_vr c1, none] [] σ (E2_44  σ)) (x3 : Int32) (σ : St) : Ab sy_vi κ 2 [sy_vr c1, sy_vi x3] [] σ (m5_faultPlace_L2b c1 K2 E2_36 E2_44 x3 σ) := by
  unfold m5_faultPlace_L2b
  refine ab_iload_n hκ dX5_faultPlace_2 rfl ?_
  refine ab_aload_n hκ dX5_faultPlace_3 rfl ?_
  refine ab_getf (v := .int (σ c1 4)) hκ (sy_o5 h2) kf_RX5_15 rfl dX5_faultPlace_4 rfl ?_
  refine ab_icmp_ge (tgt := 44) hκ dX5_faultPlace_7 rfl ?_ ?_
  · refine ab_fg (lv' := [sy_vr c1, none]) [1] rfl ?_
    exact hE2_44  σ
  · refine ab_iload_n hκ dX5_faultPlace_10 rfl ?_
    refine ab_iconst (v := 3) hκ dX5_faultPlace_11 rfl ?_
    refine ab_idiv hκ dX5_faultPlace_12 ?_
    refine ab_aload_n hκ dX5_faultPlace_13 rfl ?_
    refine ab_getf (v := .int (σ c1 2)) hκ (sy_o5 h2) kf_RX5_26 rfl dX5_faultPlace_14 rfl ?_
    refine ab_icmp_ge (tgt := 36) hκ dX5_faultPlace_17 rfl ?_ ?_
    · refine ab_fg (lv' := [none, sy_vi x3]) [0] rfl ?_
      exact hE2_36 x3 σ
    · refine ab_aload_n hκ dX5_faultPlace_20 rfl ?_
      refine ab_aload_n hκ dX5_faultPlace_21 rfl ?_
      refine ab_getf (v := .ref (c1 + 1)) hκ (sy_o5 h2) kf_RX5_9 rfl dX5_faultPlace_22 rfl ?_
      refine ab_iload_n hκ dX5_faultPlace_25 rfl ?_
      refine ab_iald hκ (sy_a5_3 h2) dX5_faultPlace_26 ?_
      refine ab_iload_n hκ dX5_faultPlace_27 rfl ?_
      refine ab_iconst (v := 3) hκ dX5_faultPlace_28 rfl ?_
      refine ab_irem hκ dX5_faultPlace_29 ?_
      refine ab_cVi (vs := [.int (σ (c1 + 1) (sy_ix x3)), .int (x3 - x3 / 3 * 3)]) (st := []) hκ dX5_faultPlace_30 kl_RX5_29 ki_X5_mayStand kv_X5_mayStand (sy_o5 h2) rfl rfl (m5_mayStand_ok c1 (σ (c1 + 1) (sy_ix x3)) (x3 - x3 / 3 * 3) h2 σ) rfl (by decide) (Nat.le_of_ble_eq_true rfl) rfl (fun r5 σ4 => ?_)
      refine ab_if_ne (tgt := 38) hκ dX5_faultPlace_33 rfl ?_ ?_
      · refine ab_iinc (v := (x3 + 1)) (lv' := [sy_vr c1, sy_vi (x3 + 1)]) hκ dX5_faultPlace_38 rfl rfl (by decide) rfl ?_
        refine ab_goto (tgt := 2) hκ dX5_faultPlace_41 rfl ?_
        exact hK2 (x3 + 1) σ4
      · refine ab_fg (lv' := [none, sy_vi x3]) [0] rfl ?_
        exact hE2_36 x3 σ4
theorem m5_faultPlace_L2_ok {κ : Kx} (hκ : Gd κ cX5_faultPlace 2 RX5 (some .int) 3) (c1 : Nat) (h2 : sy_is5 c1) {E2_36 : Int32 → St → Option (Int32 × St)} (hE2_36 : ∀ (y1 : Int32) (σ : St), Ab sy_vi κ 36 [none, sy_vi y1] [] σ (E2_36 y1 σ)) {E2_44 : St → Option (Int32 × St)} (hE2_44 : ∀ (σ : St), Ab sy_vi κ 44 [sy_vr c1, none] [] σ (E2_44  σ)) : ∀ (n : Nat) (x3 : Int32) (σ : St), Ab sy_vi κ 2 [sy_vr c1, sy_vi x3] [] σ (m5_faultPlace_L2 c1 E2_36 E2_44 n x3 σ) := by
  intro n
  induction n with
  | zero => intros; exact ab_none
  | succ n ih => exact fun x3 σ => m5_faultPlace_L2b_ok hκ c1 h2 ih hE2_36 hE2_44 x3 σ
def m5_faultPlace (this : Nat) (σ : St) : Option (Int32 × St) := m5_faultPlace_L2 this (fun y6 σ7 => some (y6, σ7)) (fun  σ8 => if (σ8 this 4) = 0 then (some ((-1), σ8)) else (sy_dv 3 (if ((σ8 this 4) - (σ8 this 4) / 3 * 3) = 2 then (some ((-1), σ8)) else (some ((σ8 this 4), σ8))))) sy_FU 0 σ
set_option maxRecDepth 100000 in
set_option maxHeartbeats 4000000 in
theorem m5_faultPlace_ok (this : Nat) (hthis : sy_is5 this) (σ : St) : Cok sy_vi yX5_faultPlace cX5_faultPlace 2 (some .int) 3 [.ref this] σ (m5_faultPlace this σ) := by
  refine cok_of (own := RX5) (by decide) rfl (fun ad => Nat.le_of_ble_eq_true rfl) (fun κ hκ => ?_)
  show Ab sy_vi κ 0 [sy_vr this, none] [] σ (m5_faultPlace this σ)
  unfold m5_faultPlace
  refine ab_iconst (v := 0) hκ dX5_faultPlace_0 rfl ?_
  refine ab_istore_n (lv' := [sy_vr this, sy_vi 0]) hκ dX5_faultPlace_1 rfl (by decide) rfl ?_
  refine m5_faultPlace_L2_ok hκ this hthis ?_ ?_ _ _ _
  · intro y6 σ7
    refine ab_iload_n hκ dX5_faultPlace_36 rfl ?_
    exact ab_iret hκ dX5_faultPlace_37
  · intro  σ8
    refine ab_aload_n hκ dX5_faultPlace_44 rfl ?_
    refine ab_getf (v := .int (σ8 this 4)) hκ (sy_o5 hthis) kf_RX5_15 rfl dX5_faultPlace_45 rfl ?_
    refine ab_if_eq (tgt := 61) hκ dX5_faultPlace_48 rfl ?_ ?_
    · refine ab_iconst (v := (-1)) hκ dX5_faultPlace_61 rfl ?_
      refine ab_goto (tgt := 69) hκ dX5_faultPlace_62 rfl ?_
      exact ab_iret hκ dX5_faultPlace_69
    · refine ab_aload_n hκ dX5_faultPlace_51 rfl ?_
      refine ab_getf (v := .int (σ8 this 4)) hκ (sy_o5 hthis) kf_RX5_15 rfl dX5_faultPlace_52 rfl ?_
      refine ab_iconst (v := 3) hκ dX5_faultPlace_55 rfl ?_
      refine ab_irem hκ dX5_faultPlace_56 ?_
      refine ab_iconst (v := 2) hκ dX5_faultPlace_57 rfl ?_
      refine ab_icmp_ne (tgt := 65) hκ dX5_faultPlace_58 rfl ?_ ?_
      · refine ab_aload_n hκ dX5_faultPlace_65 rfl ?_
        refine ab_getf (v := .int (σ8 this 4)) hκ (sy_o5 hthis) kf_RX5_15 rfl dX5_faultPlace_66 rfl ?_
        exact ab_iret hκ dX5_faultPlace_69
      · refine ab_iconst (v := (-1)) hκ dX5_faultPlace_61 rfl ?_
        refine ab_goto (tgt := 69) hκ dX5_faultPlace_62 rfl ?_
        exact ab_iret hκ dX5_faultPlace_69
-- BreathBand$Text.things()I, depth 4
def m5_things (this : Nat) (σ : St) : Option (Int32 × St) := sy_bd (m5_faultPlace this σ) (fun r2 σ1 => if r2 = (-1) then (sy_dv 3 (some ((((σ1 this 4) + 1) / 3), σ1))) else (some (0, σ1)))
set_option maxRecDepth 100000 in
set_option maxHeartbeats 4000000 in
theorem m5_things_ok (this : Nat) (hthis : sy_is5 this) (σ : St) : Cok sy_vi yX5_things cX5_things 1 (some .int) 4 [.ref this] σ (m5_things this σ) := by
  refine cok_of (own := RX5) (by decide) rfl (fun ad => Nat.le_of_ble_eq_true rfl) (fun κ hκ => ?_)
  show Ab sy_vi κ 0 [sy_vr this] [] σ (m5_things this σ)
  unfold m5_things
  refine ab_aload_n hκ dX5_things_0 rfl ?_
  refine ab_cVi (vs := []) (st := []) hκ dX5_things_1 kl_RX5_33 ki_X5_faultPlace kv_X5_faultPlace (sy_o5 hthis) rfl rfl (m5_faultPlace_ok this hthis σ) rfl (by decide) (Nat.le_of_ble_eq_true rfl) rfl (fun r2 σ1 => ?_)
  refine ab_iconst (v := (-1)) hκ dX5_things_4 rfl ?_
  refine ab_icmp_ne (tgt := 19) hκ dX5_things_5 rfl ?_ ?_
  · refine ab_iconst (v := 0) hκ dX5_things_19 rfl ?_
    exact ab_iret hκ dX5_things_20
  · refine ab_aload_n hκ dX5_things_8 rfl ?_
    refine ab_getf (v := .int (σ1 this 4)) hκ (sy_o5 hthis) kf_RX5_15 rfl dX5_things_9 rfl ?_
    refine ab_iconst (v := 1) hκ dX5_things_12 rfl ?_
    refine ab_iadd hκ dX5_things_13 ?_
    refine ab_iconst (v := 3) hκ dX5_things_14 rfl ?_
    refine ab_idiv hκ dX5_things_15 ?_
    refine ab_goto (tgt := 20) hκ dX5_things_16 rfl ?_
    exact ab_iret hκ dX5_things_20
-- BreathBand$Text.meaningAt(II)I, depth 2
def m5_meaningAt (this : Nat) (a1 : Int32) (a2 : Int32) (σ : St) : Option (Int32 × St) := sy_lt ((a1 * 3) + a2) (fun v1 => if v1 < 0 then (some ((-1), σ)) else (if (σ this 4) ≤ v1 then (some ((-1), σ)) else (sy_gd v1 47 (sy_bd (m5_meaning this (σ (this + 1) (sy_ix v1)) a2 σ) (fun r3 σ2 => some (r3, σ2))))))
set_option maxRecDepth 100000 in
set_option maxHeartbeats 4000000 in
theorem m5_meaningAt_ok (this : Nat) (a1 : Int32) (a2 : Int32) (hthis : sy_is5 this) (σ : St) : Cok sy_vi yX5_meaningAt cX5_meaningAt 4 (some .int) 2 [.ref this, .int a1, .int a2] σ (m5_meaningAt this a1 a2 σ) := by
  refine cok_of (own := RX5) (by decide) rfl (fun ad => Nat.le_of_ble_eq_true rfl) (fun κ hκ => ?_)
  show Ab sy_vi κ 0 [sy_vr this, sy_vi a1, sy_vi a2, none] [] σ (m5_meaningAt this a1 a2 σ)
  unfold m5_meaningAt
  refine ab_iload_n hκ dX5_meaningAt_0 rfl ?_
  refine ab_iconst (v := 3) hκ dX5_meaningAt_1 rfl ?_
  refine ab_imul hκ dX5_meaningAt_2 ?_
  refine ab_iload_n hκ dX5_meaningAt_3 rfl ?_
  refine ab_iadd hκ dX5_meaningAt_4 ?_
  refine ab_lti (fun v1 => ?_)
  refine ab_istore_n (lv' := [sy_vr this, sy_vi a1, sy_vi a2, sy_vi v1]) hκ dX5_meaningAt_5 rfl (by decide) rfl ?_
  refine ab_iload_n hκ dX5_meaningAt_6 rfl ?_
  refine ab_if_lt (tgt := 32) hκ dX5_meaningAt_7 rfl ?_ ?_
  · refine ab_iconst (v := (-1)) hκ dX5_meaningAt_32 rfl ?_
    exact ab_iret hκ dX5_meaningAt_33
  · refine ab_iload_n hκ dX5_meaningAt_10 rfl ?_
    refine ab_aload_n hκ dX5_meaningAt_11 rfl ?_
    refine ab_getf (v := .int (σ this 4)) hκ (sy_o5 hthis) kf_RX5_15 rfl dX5_meaningAt_12 rfl ?_
    refine ab_icmp_ge (tgt := 32) hκ dX5_meaningAt_15 rfl ?_ ?_
    · refine ab_iconst (v := (-1)) hκ dX5_meaningAt_32 rfl ?_
      exact ab_iret hκ dX5_meaningAt_33
    · refine ab_aload_n hκ dX5_meaningAt_18 rfl ?_
      refine ab_aload_n hκ dX5_meaningAt_19 rfl ?_
      refine ab_getf (v := .ref (this + 1)) hκ (sy_o5 hthis) kf_RX5_9 rfl dX5_meaningAt_20 rfl ?_
      refine ab_iload_n hκ dX5_meaningAt_23 rfl ?_
      refine ab_iald hκ (sy_a5_3 hthis) dX5_meaningAt_24 ?_
      refine ab_iload_n hκ dX5_meaningAt_25 rfl ?_
      refine ab_cVi (vs := [.int (σ (this + 1) (sy_ix v1)), .int a2]) (st := []) hκ dX5_meaningAt_26 kl_RX5_45 ki_X5_meaning kv_X5_meaning (sy_o5 hthis) rfl rfl (m5_meaning_ok this (σ (this + 1) (sy_ix v1)) a2 hthis σ) rfl (by decide) (Nat.le_of_ble_eq_true rfl) rfl (fun r3 σ2 => ?_)
      refine ab_goto (tgt := 33) hκ dX5_meaningAt_29 rfl ?_
      exact ab_iret hκ dX5_meaningAt_33
-- BreathBand$Band.takePlayers(LBreathBand$Text;)V, depth 5
def m0_takePlayers_L15b (c4 : Nat) (c6 : Nat) (K15 : Int32 → St → Option (Unit × St)) (E15_67 : St → Option (Unit × St)) (x8 : Int32) (σ : St) : Option (Unit × St) := if (σ c4 0) ≤ x8 then (E15_67  σ) else (sy_bd (m5_meaningAt c6 x8 0 σ) (fun r10 σ9 => sy_gd x8 11 (sy_lt (sy_sf σ9 (c4 + 1) (sy_ix x8) r10) (fun σ11 => sy_bd (m5_meaningAt c6 x8 1 σ11) (fun r13 σ12 => sy_gd x8 11 (sy_lt (sy_sf σ12 (c4 + 2) (sy_ix x8) r13) (fun σ14 => sy_gd x8 11 (sy_lt (sy_sf σ14 (c4 + 3) (sy_ix x8) x8) (fun σ15 => sy_gd x8 11 (sy_lt (sy_sf σ15 (c4 + 4) (sy_ix x8) x8) (fun σ16 => K15 (x8 + 1) σ16)))))))))))
def m0_takePlayers_L15 (c4 : Nat) (c6 : Nat) (E15_67 : St → Option (Unit × St)) : Nat → Int32 → St → Option (Unit × St)
  | 0 => fun _ _ => none
  | n + 1 => m0_takePlayers_L15b c4 c6 (m0_takePlayers_L15 c4 c6 E15_67 n) E15_67
set_option maxRecDepth 100000 in
set_option maxHeartbeats 4000000 in
theorem m0_takePlayers_L15b_ok {κ : Kx} (hκ : Gd κ cX0_takePlayers 3 RX0 none 5) (c4 : Nat) (c6 : Nat) (h5 : sy_is0 c4) (h7 : sy_is5 c6) {K15 : Int32 → St → Option (Unit × St)} (hK15 : ∀ (x8 : Int32) (σ : St), Ab sy_cu κ 15 [sy_vr c4, sy_vr c6, sy_vi x8] [] σ (K15 x8 σ)) {E15_67 : St → Option (Unit × St)} (hE15_67 : ∀ (σ : St), Ab sy_cu κ 67 [none, none, none] [] σ (E15_67  σ)) (x8 : Int32) (σ : St) : Ab sy_cu κ 15 [sy_vr c4, sy_vr c6, sy_vi x8] [] σ (m0_takePlayers_L15b c4 c6 K15 E15_67 x8 σ) := by
  unfold m0_takePlayers_L15b
  refine ab_iload_n hκ dX0_takePlayers_15 rfl ?_
  refine ab_aload_n hκ dX0_takePlayers_16 rfl ?_
  refine ab_getf (v := .int (σ c4 0)) hκ (sy_o0 h5) kf_RX0_9 rfl dX0_takePlayers_17 rfl ?_
  refine ab_icmp_ge (tgt := 67) hκ dX0_takePlayers_20 rfl ?_ ?_
  · refine ab_fg (lv' := [none, none, none]) [0, 1, 2] rfl ?_
    exact hE15_67  σ
  · refine ab_aload_n hκ dX0_takePlayers_23 rfl ?_
    refine ab_getf (v := .ref (c4 + 1)) hκ (sy_o0 h5) kf_RX0_15 rfl dX0_takePlayers_24 rfl ?_
    refine ab_iload_n hκ dX0_takePlayers_27 rfl ?_
    refine ab_aload_n hκ dX0_takePlayers_28 rfl ?_
    refine ab_iload_n hκ dX0_takePlayers_29 rfl ?_
    refine ab_iconst (v := 0) hκ dX0_takePlayers_30 rfl ?_
    refine ab_cVi (vs := [.int x8, .int 0]) (st := [.int x8, .ref (c4 + 1)]) hκ dX0_takePlayers_31 kl_RX0_70 ki_X5_meaningAt kv_X5_meaningAt (sy_o5 h7) rfl rfl (m5_meaningAt_ok c6 x8 0 h7 σ) rfl (by decide) (Nat.le_of_ble_eq_true rfl) rfl (fun r10 σ9 => ?_)
    refine ab_iast hκ (sy_a0_1 h5) dX0_takePlayers_34 ?_
    refine ab_lts (fun σ11 => ?_)
    refine ab_aload_n hκ dX0_takePlayers_35 rfl ?_
    refine ab_getf (v := .ref (c4 + 2)) hκ (sy_o0 h5) kf_RX0_19 rfl dX0_takePlayers_36 rfl ?_
    refine ab_iload_n hκ dX0_takePlayers_39 rfl ?_
    refine ab_aload_n hκ dX0_takePlayers_40 rfl ?_
    refine ab_iload_n hκ dX0_takePlayers_41 rfl ?_
    refine ab_iconst (v := 1) hκ dX0_takePlayers_42 rfl ?_
    refine ab_cVi (vs := [.int x8, .int 1]) (st := [.int x8, .ref (c4 + 2)]) hκ dX0_takePlayers_43 kl_RX0_70 ki_X5_meaningAt kv_X5_meaningAt (sy_o5 h7) rfl rfl (m5_meaningAt_ok c6 x8 1 h7 σ11) rfl (by decide) (Nat.le_of_ble_eq_true rfl) rfl (fun r13 σ12 => ?_)
    refine ab_iast hκ (sy_a0_2 h5) dX0_takePlayers_46 ?_
    refine ab_lts (fun σ14 => ?_)
    refine ab_aload_n hκ dX0_takePlayers_47 rfl ?_
    refine ab_getf (v := .ref (c4 + 3)) hκ (sy_o0 h5) kf_RX0_22 rfl dX0_takePlayers_48 rfl ?_
    refine ab_iload_n hκ dX0_takePlayers_51 rfl ?_
    refine ab_iload_n hκ dX0_takePlayers_52 rfl ?_
    refine ab_iast hκ (sy_a0_3 h5) dX0_takePlayers_53 ?_
    refine ab_lts (fun σ15 => ?_)
    refine ab_aload_n hκ dX0_takePlayers_54 rfl ?_
    refine ab_getf (v := .ref (c4 + 4)) hκ (sy_o0 h5) kf_RX0_25 rfl dX0_takePlayers_55 rfl ?_
    refine ab_iload_n hκ dX0_takePlayers_58 rfl ?_
    refine ab_iload_n hκ dX0_takePlayers_59 rfl ?_
    refine ab_iast hκ (sy_a0_4 h5) dX0_takePlayers_60 ?_
    refine ab_lts (fun σ16 => ?_)
    refine ab_iinc (v := (x8 + 1)) (lv' := [sy_vr c4, sy_vr c6, sy_vi (x8 + 1)]) hκ dX0_takePlayers_61 rfl rfl (by decide) rfl ?_
    refine ab_goto (tgt := 15) hκ dX0_takePlayers_64 rfl ?_
    exact hK15 (x8 + 1) σ16
theorem m0_takePlayers_L15_ok {κ : Kx} (hκ : Gd κ cX0_takePlayers 3 RX0 none 5) (c4 : Nat) (c6 : Nat) (h5 : sy_is0 c4) (h7 : sy_is5 c6) {E15_67 : St → Option (Unit × St)} (hE15_67 : ∀ (σ : St), Ab sy_cu κ 67 [none, none, none] [] σ (E15_67  σ)) : ∀ (n : Nat) (x8 : Int32) (σ : St), Ab sy_cu κ 15 [sy_vr c4, sy_vr c6, sy_vi x8] [] σ (m0_takePlayers_L15 c4 c6 E15_67 n x8 σ) := by
  intro n
  induction n with
  | zero => intros; exact ab_none
  | succ n ih => exact fun x8 σ => m0_takePlayers_L15b_ok hκ c4 c6 h5 h7 ih hE15_67 x8 σ
def m0_takePlayers (this : Nat) (a1 : Nat) (σ : St) : Option (Unit × St) := sy_bd (m5_things a1 σ) (fun r2 σ1 => sy_lt (sy_sf σ1 this 0 (sy_min r2 11)) (fun σ3 => m0_takePlayers_L15 this a1 (fun  σ17 => some ((), σ17)) sy_FU 0 σ3))
set_option maxRecDepth 100000 in
set_option maxHeartbeats 4000000 in
theorem m0_takePlayers_ok (this : Nat) (a1 : Nat) (hthis : sy_is0 this) (ha1 : sy_is5 a1) (σ : St) : Cok sy_cu yX0_takePlayers cX0_takePlayers 3 none 5 [.ref this, .ref a1] σ (m0_takePlayers this a1 σ) := by
  refine cok_of (own := RX0) (by decide) rfl (fun ad => Nat.le_of_ble_eq_true rfl) (fun κ hκ => ?_)
  show Ab sy_cu κ 0 [sy_vr this, sy_vr a1, none] [] σ (m0_takePlayers this a1 σ)
  unfold m0_takePlayers
  refine ab_aload_n hκ dX0_takePlayers_0 rfl ?_
  refine ab_aload_n hκ dX0_takePlayers_1 rfl ?_
  refine ab_cVi (vs := []) (st := [.ref this]) hκ dX0_takePlayers_2 kl_RX0_58 ki_X5_things kv_X5_things (sy_o5 ha1) rfl rfl (m5_things_ok a1 ha1 σ) rfl (by decide) (Nat.le_of_ble_eq_true rfl) rfl (fun r2 σ1 => ?_)
  refine ab_bipush (v := 11) hκ dX0_takePlayers_5 rfl ?_
  refine ab_mmin hκ dX0_takePlayers_7 kl_RX0_64 (by decide) (Nat.le_of_ble_eq_true rfl) ?_
  refine ab_putf hκ (sy_o0 hthis) kp_RX0_9 rfl dX0_takePlayers_10 ?_
  refine ab_lts (fun σ3 => ?_)
  refine ab_iconst (v := 0) hκ dX0_takePlayers_13 rfl ?_
  refine ab_istore_n (lv' := [sy_vr this, sy_vr a1, sy_vi 0]) hκ dX0_takePlayers_14 rfl (by decide) rfl ?_
  refine m0_takePlayers_L15_ok hκ this a1 hthis ha1 ?_ _ _ _
  · intro  σ17
    exact ab_vret hκ dX0_takePlayers_67
-- java/util/Arrays.fill([II)V, depth 0
def mj7_fill_53178_L5b (n3 : Nat) (c2 : Nat) (K5 : Int32 → Int32 → Int32 → St → Option (Unit × St)) (E5_20 : St → Option (Unit × St)) (x5 : Int32) (x6 : Int32) (x7 : Int32) (σ : St) : Option (Unit × St) := if x7 ≤ x6 then (E5_20  σ) else (sy_gd x6 n3 (sy_lt (sy_sf σ c2 (sy_ix x6) x5) (fun σ8 => K5 x5 (x6 + 1) x7 σ8)))
def mj7_fill_53178_L5 (n3 : Nat) (c2 : Nat) (E5_20 : St → Option (Unit × St)) : Nat → Int32 → Int32 → Int32 → St → Option (Unit × St)
  | 0 => fun _ _ _ _ => none
  | n + 1 => mj7_fill_53178_L5b n3 c2 (mj7_fill_53178_L5 n3 c2 E5_20 n) E5_20
set_option maxRecDepth 100000 in
set_option maxHeartbeats 4000000 in
theorem mj7_fill_53178_L5b_ok {κ : Kx} (hκ : Gd κ cJ7_fill_53178 4 RJ7 none 0) (n3 : Nat) (c2 : Nat) (h4 : sy_shp[c2]? = some (.inl n3)) {K5 : Int32 → Int32 → Int32 → St → Option (Unit × St)} (hK5 : ∀ (x5 : Int32) (x6 : Int32) (x7 : Int32) (σ : St), Ab sy_cu κ 5 [sy_vr c2, sy_vi x5, sy_vi x6, sy_vi x7] [] σ (K5 x5 x6 x7 σ)) {E5_20 : St → Option (Unit × St)} (hE5_20 : ∀ (σ : St), Ab sy_cu κ 20 [none, none, none, none] [] σ (E5_20  σ)) (x5 : Int32) (x6 : Int32) (x7 : Int32) (σ : St) : Ab sy_cu κ 5 [sy_vr c2, sy_vi x5, sy_vi x6, sy_vi x7] [] σ (mj7_fill_53178_L5b n3 c2 K5 E5_20 x5 x6 x7 σ) := by
  unfold mj7_fill_53178_L5b
  refine ab_iload_n hκ dJ7_fill_53178_5 rfl ?_
  refine ab_iload_n hκ dJ7_fill_53178_6 rfl ?_
  refine ab_icmp_ge (tgt := 20) hκ dJ7_fill_53178_7 rfl ?_ ?_
  · refine ab_fg (lv' := [none, none, none, none]) [0, 1, 2, 3] rfl ?_
    exact hE5_20  σ
  · refine ab_aload_n hκ dJ7_fill_53178_10 rfl ?_
    refine ab_iload_n hκ dJ7_fill_53178_11 rfl ?_
    refine ab_iload_n hκ dJ7_fill_53178_12 rfl ?_
    refine ab_iast hκ h4 dJ7_fill_53178_13 ?_
    refine ab_lts (fun σ8 => ?_)
    refine ab_iinc (v := (x6 + 1)) (lv' := [sy_vr c2, sy_vi x5, sy_vi (x6 + 1), sy_vi x7]) hκ dJ7_fill_53178_14 rfl rfl (by decide) rfl ?_
    refine ab_goto (tgt := 5) hκ dJ7_fill_53178_17 rfl ?_
    exact hK5 x5 (x6 + 1) x7 σ8
theorem mj7_fill_53178_L5_ok {κ : Kx} (hκ : Gd κ cJ7_fill_53178 4 RJ7 none 0) (n3 : Nat) (c2 : Nat) (h4 : sy_shp[c2]? = some (.inl n3)) {E5_20 : St → Option (Unit × St)} (hE5_20 : ∀ (σ : St), Ab sy_cu κ 20 [none, none, none, none] [] σ (E5_20  σ)) : ∀ (n : Nat) (x5 : Int32) (x6 : Int32) (x7 : Int32) (σ : St), Ab sy_cu κ 5 [sy_vr c2, sy_vi x5, sy_vi x6, sy_vi x7] [] σ (mj7_fill_53178_L5 n3 c2 E5_20 n x5 x6 x7 σ) := by
  intro n
  induction n with
  | zero => intros; exact ab_none
  | succ n ih => exact fun x5 x6 x7 σ => mj7_fill_53178_L5b_ok hκ n3 c2 h4 ih hE5_20 x5 x6 x7 σ
def mj7_fill_53178 (a1 : Nat) (n1 : Nat) (a2 : Int32) (σ : St) : Option (Unit × St) := sy_lt (nI n1) (fun v1 => mj7_fill_53178_L5 n1 a1 (fun  σ9 => some ((), σ9)) sy_FU a2 0 v1 σ)
set_option maxRecDepth 100000 in
set_option maxHeartbeats 4000000 in
theorem mj7_fill_53178_ok (a1 : Nat) (n1 : Nat) (a2 : Int32) (ha1 : sy_shp[a1]? = some (.inl n1)) (σ : St) : Cok sy_cu yJ7_fill_53178 cJ7_fill_53178 4 none 0 [.ref a1, .int a2] σ (mj7_fill_53178 a1 n1 a2 σ) := by
  refine cok_of (own := RJ7) (by decide) rfl (fun ad => Nat.le_of_ble_eq_true rfl) (fun κ hκ => ?_)
  show Ab sy_cu κ 0 [sy_vr a1, sy_vi a2, none, none] [] σ (mj7_fill_53178 a1 n1 a2 σ)
  unfold mj7_fill_53178
  refine ab_iconst (v := 0) hκ dJ7_fill_53178_0 rfl ?_
  refine ab_istore_n (lv' := [sy_vr a1, sy_vi a2, sy_vi 0, none]) hκ dJ7_fill_53178_1 rfl (by decide) rfl ?_
  refine ab_aload_n hκ dJ7_fill_53178_2 rfl ?_
  refine ab_alen hκ ha1 dJ7_fill_53178_3 ?_
  refine ab_lti (fun v1 => ?_)
  refine ab_istore_n (lv' := [sy_vr a1, sy_vi a2, sy_vi 0, sy_vi v1]) hκ dJ7_fill_53178_4 rfl (by decide) rfl ?_
  refine mj7_fill_53178_L5_ok hκ n1 a1 ha1 ?_ _ _ _ _ _
  · intro  σ9
    exact ab_vret hκ dJ7_fill_53178_20
-- BreathBand$Band.clearNotes()V, depth 1
def m0_clearNotes (this : Nat) (σ : St) : Option (Unit × St) := sy_lt (sy_sf σ this 5 0) (fun σ1 => sy_bd (mj7_fill_53178 (this + 7) 24 0 σ1) (fun _ σ2 => some ((), σ2)))
set_option maxRecDepth 100000 in
set_option maxHeartbeats 4000000 in
theorem m0_clearNotes_ok (this : Nat) (hthis : sy_is0 this) (σ : St) : Cok sy_cu yX0_clearNotes cX0_clearNotes 1 none 1 [.ref this] σ (m0_clearNotes this σ) := by
  refine cok_of (own := RX0) (by decide) rfl (fun ad => Nat.le_of_ble_eq_true rfl) (fun κ hκ => ?_)
  show Ab sy_cu κ 0 [sy_vr this] [] σ (m0_clearNotes this σ)
  unfold m0_clearNotes
  refine ab_aload_n hκ dX0_clearNotes_0 rfl ?_
  refine ab_iconst (v := 0) hκ dX0_clearNotes_1 rfl ?_
  refine ab_putf hκ (sy_o0 hthis) kp_RX0_28 rfl dX0_clearNotes_2 ?_
  refine ab_lts (fun σ1 => ?_)
  refine ab_aload_n hκ dX0_clearNotes_5 rfl ?_
  refine ab_getf (v := .ref (this + 7)) hκ (sy_o0 hthis) kf_RX0_37 rfl dX0_clearNotes_6 rfl ?_
  refine ab_iconst (v := 0) hκ dX0_clearNotes_9 rfl ?_
  refine ab_cSv (vs := [.ref (this + 7), .int 0]) (st := []) hκ dX0_clearNotes_10 kl_RX0_80 ki_J7_fill_53178 kv_J7_fill_53178 (mj7_fill_53178_ok (this + 7) 24 0 (sy_a0_8 hthis) σ1) rfl (by decide) (Nat.le_of_ble_eq_true rfl) rfl (fun _ σ2 => ?_)
  exact ab_vret hκ dX0_clearNotes_13
-- BreathBand$Band.addNote(II)V, depth 1
def m0_addNote (this : Nat) (a1 : Int32) (a2 : Int32) (σ : St) : Option (Unit × St) := if 16 ≤ (σ this 5) then (some ((), σ)) else (sy_bd (m6_within a1 0 23 σ) (fun r2 σ1 => if r2 = 0 then (some ((), σ1)) else (sy_bd (m6_within a2 0 10 σ1) (fun r4 σ3 => if r4 = 0 then (some ((), σ3)) else (sy_gd (σ3 this 5) 16 (sy_lt (sy_sf σ3 (this + 5) (sy_ix (σ3 this 5)) a1) (fun σ5 => sy_gd (σ5 this 5) 16 (sy_lt (sy_sf σ5 (this + 6) (sy_ix (σ5 this 5)) a2) (fun σ6 => sy_gd a1 24 (sy_gd a1 24 (sy_lt (sy_sf σ6 (this + 7) (sy_ix a1) ((σ6 (this + 7) (sy_ix a1)) ||| (1 <<< ((σ6 this 5) &&& 31)))) (fun σ7 => sy_lt (sy_sf σ7 this 5 ((σ7 this 5) + 1)) (fun σ8 => some ((), σ8))))))))))))))
set_option maxRecDepth 100000 in
set_option maxHeartbeats 4000000 in
theorem m0_addNote_ok (this : Nat) (a1 : Int32) (a2 : Int32) (hthis : sy_is0 this) (σ : St) : Cok sy_cu yX0_addNote cX0_addNote 3 none 1 [.ref this, .int a1, .int a2] σ (m0_addNote this a1 a2 σ) := by
  refine cok_of (own := RX0) (by decide) rfl (fun ad => Nat.le_of_ble_eq_true rfl) (fun κ hκ => ?_)
  show Ab sy_cu κ 0 [sy_vr this, sy_vi a1, sy_vi a2] [] σ (m0_addNote this a1 a2 σ)
  unfold m0_addNote
  refine ab_aload_n hκ dX0_addNote_0 rfl ?_
  refine ab_getf (v := .int (σ this 5)) hκ (sy_o0 hthis) kf_RX0_28 rfl dX0_addNote_1 rfl ?_
  refine ab_bipush (v := 16) hκ dX0_addNote_4 rfl ?_
  refine ab_icmp_ge (tgt := 29) hκ dX0_addNote_6 rfl ?_ ?_
  · exact ab_vret hκ dX0_addNote_29
  · refine ab_iload_n hκ dX0_addNote_9 rfl ?_
    refine ab_iconst (v := 0) hκ dX0_addNote_10 rfl ?_
    refine ab_bipush (v := 23) hκ dX0_addNote_11 rfl ?_
    refine ab_cNi (vs := [.int a1, .int 0, .int 23]) (st := []) hκ dX0_addNote_13 (fun _ n1 n2 => n1) ki_X6_within kv_X6_within (m6_within_ok a1 0 23 σ) rfl (by decide) (Nat.le_of_ble_eq_true rfl) rfl (fun r2 σ1 => ?_)
    refine ab_if_eq (tgt := 29) hκ dX0_addNote_16 rfl ?_ ?_
    · exact ab_vret hκ dX0_addNote_29
    · refine ab_iload_n hκ dX0_addNote_19 rfl ?_
      refine ab_iconst (v := 0) hκ dX0_addNote_20 rfl ?_
      refine ab_bipush (v := 10) hκ dX0_addNote_21 rfl ?_
      refine ab_cNi (vs := [.int a2, .int 0, .int 10]) (st := []) hκ dX0_addNote_23 (fun _ n1 n2 => n1) ki_X6_within kv_X6_within (m6_within_ok a2 0 10 σ1) rfl (by decide) (Nat.le_of_ble_eq_true rfl) rfl (fun r4 σ3 => ?_)
      refine ab_if_ne (tgt := 30) hκ dX0_addNote_26 rfl ?_ ?_
      · refine ab_aload_n hκ dX0_addNote_30 rfl ?_
        refine ab_getf (v := .ref (this + 5)) hκ (sy_o0 hthis) kf_RX0_31 rfl dX0_addNote_31 rfl ?_
        refine ab_aload_n hκ dX0_addNote_34 rfl ?_
        refine ab_getf (v := .int (σ3 this 5)) hκ (sy_o0 hthis) kf_RX0_28 rfl dX0_addNote_35 rfl ?_
        refine ab_iload_n hκ dX0_addNote_38 rfl ?_
        refine ab_iast hκ (sy_a0_6 hthis) dX0_addNote_39 ?_
        refine ab_lts (fun σ5 => ?_)
        refine ab_aload_n hκ dX0_addNote_40 rfl ?_
        refine ab_getf (v := .ref (this + 6)) hκ (sy_o0 hthis) kf_RX0_34 rfl dX0_addNote_41 rfl ?_
        refine ab_aload_n hκ dX0_addNote_44 rfl ?_
        refine ab_getf (v := .int (σ5 this 5)) hκ (sy_o0 hthis) kf_RX0_28 rfl dX0_addNote_45 rfl ?_
        refine ab_iload_n hκ dX0_addNote_48 rfl ?_
        refine ab_iast hκ (sy_a0_7 hthis) dX0_addNote_49 ?_
        refine ab_lts (fun σ6 => ?_)
        refine ab_aload_n hκ dX0_addNote_50 rfl ?_
        refine ab_getf (v := .ref (this + 7)) hκ (sy_o0 hthis) kf_RX0_37 rfl dX0_addNote_51 rfl ?_
        refine ab_iload_n hκ dX0_addNote_54 rfl ?_
        refine ab_dup2 hκ dX0_addNote_55 ?_
        refine ab_iald hκ (sy_a0_8 hthis) dX0_addNote_56 ?_
        refine ab_iconst (v := 1) hκ dX0_addNote_57 rfl ?_
        refine ab_aload_n hκ dX0_addNote_58 rfl ?_
        refine ab_getf (v := .int (σ6 this 5)) hκ (sy_o0 hthis) kf_RX0_28 rfl dX0_addNote_59 rfl ?_
        refine ab_ishl hκ dX0_addNote_62 ?_
        refine ab_ior hκ dX0_addNote_63 ?_
        refine ab_iast hκ (sy_a0_8 hthis) dX0_addNote_64 ?_
        refine ab_lts (fun σ7 => ?_)
        refine ab_aload_n hκ dX0_addNote_65 rfl ?_
        refine ab_dupa hκ dX0_addNote_66 ?_
        refine ab_getf (v := .int (σ7 this 5)) hκ (sy_o0 hthis) kf_RX0_28 rfl dX0_addNote_67 rfl ?_
        refine ab_iconst (v := 1) hκ dX0_addNote_70 rfl ?_
        refine ab_iadd hκ dX0_addNote_71 ?_
        refine ab_putf hκ (sy_o0 hthis) kp_RX0_28 rfl dX0_addNote_72 ?_
        refine ab_lts (fun σ8 => ?_)
        exact ab_vret hκ dX0_addNote_75
      · exact ab_vret hκ dX0_addNote_29
-- BreathBand$Band.takeNotes(LBreathBand$Text;)V, depth 5
def m0_takeNotes_L11b (c4 : Nat) (c6 : Nat) (K11 : Int32 → Int32 → St → Option (Unit × St)) (E11_38 : St → Option (Unit × St)) (x8 : Int32) (x9 : Int32) (σ : St) : Option (Unit × St) := if x8 ≤ x9 then (E11_38  σ) else (sy_bd (m5_meaningAt c6 x9 0 σ) (fun r11 σ10 => sy_bd (m5_meaningAt c6 x9 1 σ10) (fun r13 σ12 => sy_bd (m0_addNote c4 r11 r13 σ12) (fun _ σ14 => K11 x8 (x9 + 1) σ14))))
def m0_takeNotes_L11 (c4 : Nat) (c6 : Nat) (E11_38 : St → Option (Unit × St)) : Nat → Int32 → Int32 → St → Option (Unit × St)
  | 0 => fun _ _ _ => none
  | n + 1 => m0_takeNotes_L11b c4 c6 (m0_takeNotes_L11 c4 c6 E11_38 n) E11_38
set_option maxRecDepth 100000 in
set_option maxHeartbeats 4000000 in
theorem m0_takeNotes_L11b_ok {κ : Kx} (hκ : Gd κ cX0_takeNotes 4 RX0 none 5) (c4 : Nat) (c6 : Nat) (h5 : sy_is0 c4) (h7 : sy_is5 c6) {K11 : Int32 → Int32 → St → Option (Unit × St)} (hK11 : ∀ (x8 : Int32) (x9 : Int32) (σ : St), Ab sy_cu κ 11 [sy_vr c4, sy_vr c6, sy_vi x8, sy_vi x9] [] σ (K11 x8 x9 σ)) {E11_38 : St → Option (Unit × St)} (hE11_38 : ∀ (σ : St), Ab sy_cu κ 38 [none, none, none, none] [] σ (E11_38  σ)) (x8 : Int32) (x9 : Int32) (σ : St) : Ab sy_cu κ 11 [sy_vr c4, sy_vr c6, sy_vi x8, sy_vi x9] [] σ (m0_takeNotes_L11b c4 c6 K11 E11_38 x8 x9 σ) := by
  unfold m0_takeNotes_L11b
  refine ab_iload_n hκ dX0_takeNotes_11 rfl ?_
  refine ab_iload_n hκ dX0_takeNotes_12 rfl ?_
  refine ab_icmp_ge (tgt := 38) hκ dX0_takeNotes_13 rfl ?_ ?_
  · refine ab_fg (lv' := [none, none, none, none]) [0, 1, 2, 3] rfl ?_
    exact hE11_38  σ
  · refine ab_aload_n hκ dX0_takeNotes_16 rfl ?_
    refine ab_aload_n hκ dX0_takeNotes_17 rfl ?_
    refine ab_iload_n hκ dX0_takeNotes_18 rfl ?_
    refine ab_iconst (v := 0) hκ dX0_takeNotes_19 rfl ?_
    refine ab_cVi (vs := [.int x9, .int 0]) (st := [.ref c4]) hκ dX0_takeNotes_20 kl_RX0_70 ki_X5_meaningAt kv_X5_meaningAt (sy_o5 h7) rfl rfl (m5_meaningAt_ok c6 x9 0 h7 σ) rfl (by decide) (Nat.le_of_ble_eq_true rfl) rfl (fun r11 σ10 => ?_)
    refine ab_aload_n hκ dX0_takeNotes_23 rfl ?_
    refine ab_iload_n hκ dX0_takeNotes_24 rfl ?_
    refine ab_iconst (v := 1) hκ dX0_takeNotes_25 rfl ?_
    refine ab_cVi (vs := [.int x9, .int 1]) (st := [.int r11, .ref c4]) hκ dX0_takeNotes_26 kl_RX0_70 ki_X5_meaningAt kv_X5_meaningAt (sy_o5 h7) rfl rfl (m5_meaningAt_ok c6 x9 1 h7 σ10) rfl (by decide) (Nat.le_of_ble_eq_true rfl) rfl (fun r13 σ12 => ?_)
    refine ab_cVv (vs := [.int r11, .int r13]) (st := []) hκ dX0_takeNotes_29 kl_RX0_76 ki_X0_addNote kv_X0_addNote (sy_o0 h5) rfl rfl (m0_addNote_ok c4 r11 r13 h5 σ12) rfl (by decide) (Nat.le_of_ble_eq_true rfl) rfl (fun _ σ14 => ?_)
    refine ab_iinc (v := (x9 + 1)) (lv' := [sy_vr c4, sy_vr c6, sy_vi x8, sy_vi (x9 + 1)]) hκ dX0_takeNotes_32 rfl rfl (by decide) rfl ?_
    refine ab_goto (tgt := 11) hκ dX0_takeNotes_35 rfl ?_
    exact hK11 x8 (x9 + 1) σ14
theorem m0_takeNotes_L11_ok {κ : Kx} (hκ : Gd κ cX0_takeNotes 4 RX0 none 5) (c4 : Nat) (c6 : Nat) (h5 : sy_is0 c4) (h7 : sy_is5 c6) {E11_38 : St → Option (Unit × St)} (hE11_38 : ∀ (σ : St), Ab sy_cu κ 38 [none, none, none, none] [] σ (E11_38  σ)) : ∀ (n : Nat) (x8 : Int32) (x9 : Int32) (σ : St), Ab sy_cu κ 11 [sy_vr c4, sy_vr c6, sy_vi x8, sy_vi x9] [] σ (m0_takeNotes_L11 c4 c6 E11_38 n x8 x9 σ) := by
  intro n
  induction n with
  | zero => intros; exact ab_none
  | succ n ih => exact fun x8 x9 σ => m0_takeNotes_L11b_ok hκ c4 c6 h5 h7 ih hE11_38 x8 x9 σ
def m0_takeNotes (this : Nat) (a1 : Nat) (σ : St) : Option (Unit × St) := sy_bd (m0_clearNotes this σ) (fun _ σ1 => sy_bd (m5_things a1 σ1) (fun r3 σ2 => m0_takeNotes_L11 this a1 (fun  σ15 => some ((), σ15)) sy_FU r3 0 σ2))
set_option maxRecDepth 100000 in
set_option maxHeartbeats 4000000 in
theorem m0_takeNotes_ok (this : Nat) (a1 : Nat) (hthis : sy_is0 this) (ha1 : sy_is5 a1) (σ : St) : Cok sy_cu yX0_takeNotes cX0_takeNotes 4 none 5 [.ref this, .ref a1] σ (m0_takeNotes this a1 σ) := by
  refine cok_of (own := RX0) (by decide) rfl (fun ad => Nat.le_of_ble_eq_true rfl) (fun κ hκ => ?_)
  show Ab sy_cu κ 0 [sy_vr this, sy_vr a1, none, none] [] σ (m0_takeNotes this a1 σ)
  unfold m0_takeNotes
  refine ab_aload_n hκ dX0_takeNotes_0 rfl ?_
  refine ab_cVv (vs := []) (st := []) hκ dX0_takeNotes_1 kl_RX0_73 ki_X0_clearNotes kv_X0_clearNotes (sy_o0 hthis) rfl rfl (m0_clearNotes_ok this hthis σ) rfl (by decide) (Nat.le_of_ble_eq_true rfl) rfl (fun _ σ1 => ?_)
  refine ab_aload_n hκ dX0_takeNotes_4 rfl ?_
  refine ab_cVi (vs := []) (st := []) hκ dX0_takeNotes_5 kl_RX0_58 ki_X5_things kv_X5_things (sy_o5 ha1) rfl rfl (m5_things_ok a1 ha1 σ1) rfl (by decide) (Nat.le_of_ble_eq_true rfl) rfl (fun r3 σ2 => ?_)
  refine ab_istore_n (lv' := [sy_vr this, sy_vr a1, sy_vi r3, none]) hκ dX0_takeNotes_8 rfl (by decide) rfl ?_
  refine ab_iconst (v := 0) hκ dX0_takeNotes_9 rfl ?_
  refine ab_istore_n (lv' := [sy_vr this, sy_vr a1, sy_vi r3, sy_vi 0]) hκ dX0_takeNotes_10 rfl (by decide) rfl ?_
  refine m0_takeNotes_L11_ok hκ this a1 hthis ha1 ?_ _ _ _ _
  · intro  σ15
    exact ab_vret hκ dX0_takeNotes_38
-- BreathBand.unlearn()V, depth 0
def m6_unlearn (σ : St) : Option (Unit × St) := sy_zg 0 (sy_lt (sy_sf σ 0 14 0) (fun σ1 => sy_zg 0 (sy_lt (sy_sf σ1 0 15 0) (fun σ2 => sy_zg 0 (sy_lt (sy_sf σ2 46 0 0) (fun σ3 => sy_zg 0 (sy_lt (sy_sf σ3 47 0 0) (fun σ4 => sy_zg 0 (sy_lt (sy_sf σ4 48 0 0) (fun σ5 => sy_zg 0 (sy_lt (sy_sf σ5 49 0 0) (fun σ6 => some ((), σ6)))))))))))))
set_option maxRecDepth 100000 in
set_option maxHeartbeats 4000000 in
theorem m6_unlearn_ok (σ : St) : Cok sy_cu yX6_unlearn cX6_unlearn 1 none 0 [.ref 0] σ (m6_unlearn σ) := by
  refine cok_of (own := RX6) (by decide) rfl (fun ad => Nat.le_of_ble_eq_true rfl) (fun κ hκ => ?_)
  show Ab sy_cu κ 0 [sy_vr 0] [] σ (m6_unlearn σ)
  unfold m6_unlearn
  refine ab_aload_n hκ dX6_unlearn_0 rfl ?_
  refine ab_iconst (v := 0) hκ dX6_unlearn_1 rfl ?_
  refine ab_putz hκ (sy_o6 rfl) kp_RX6_77 rfl dX6_unlearn_2 ?_
  refine ab_lts (fun σ1 => ?_)
  refine ab_aload_n hκ dX6_unlearn_5 rfl ?_
  refine ab_iconst (v := 0) hκ dX6_unlearn_6 rfl ?_
  refine ab_putz hκ (sy_o6 rfl) kp_RX6_81 rfl dX6_unlearn_7 ?_
  refine ab_lts (fun σ2 => ?_)
  refine ab_aload_n hκ dX6_unlearn_10 rfl ?_
  refine ab_getf (v := .ref 46) hκ (sy_o6 rfl) kf_RX6_51 rfl dX6_unlearn_11 rfl ?_
  refine ab_iconst (v := 0) hκ dX6_unlearn_14 rfl ?_
  refine ab_putz hκ (sy_o1 (Or.inl rfl)) kp_RX6_196 rfl dX6_unlearn_15 ?_
  refine ab_lts (fun σ3 => ?_)
  refine ab_aload_n hκ dX6_unlearn_18 rfl ?_
  refine ab_getf (v := .ref 47) hκ (sy_o6 rfl) kf_RX6_55 rfl dX6_unlearn_19 rfl ?_
  refine ab_iconst (v := 0) hκ dX6_unlearn_22 rfl ?_
  refine ab_putz hκ (sy_o1 (Or.inr (Or.inl rfl))) kp_RX6_196 rfl dX6_unlearn_23 ?_
  refine ab_lts (fun σ4 => ?_)
  refine ab_aload_n hκ dX6_unlearn_26 rfl ?_
  refine ab_getf (v := .ref 48) hκ (sy_o6 rfl) kf_RX6_58 rfl dX6_unlearn_27 rfl ?_
  refine ab_iconst (v := 0) hκ dX6_unlearn_30 rfl ?_
  refine ab_putz hκ (sy_o1 (Or.inr (Or.inr (Or.inl rfl)))) kp_RX6_196 rfl dX6_unlearn_31 ?_
  refine ab_lts (fun σ5 => ?_)
  refine ab_aload_n hκ dX6_unlearn_34 rfl ?_
  refine ab_getf (v := .ref 49) hκ (sy_o6 rfl) kf_RX6_61 rfl dX6_unlearn_35 rfl ?_
  refine ab_iconst (v := 0) hκ dX6_unlearn_38 rfl ?_
  refine ab_putz hκ (sy_o1 (Or.inr (Or.inr (Or.inr rfl)))) kp_RX6_196 rfl dX6_unlearn_39 ?_
  refine ab_lts (fun σ6 => ?_)
  exact ab_vret hκ dX6_unlearn_42
-- BreathBand.takeTexts()V, depth 6
def m6_takeTexts (σ : St) : Option (Unit × St) := sy_bd (m0_takePlayers 5 1 σ) (fun _ σ1 => sy_bd (m0_takeNotes 5 3 σ1) (fun _ σ2 => sy_bd (m6_unlearn σ2) (fun _ σ3 => some ((), σ3))))
set_option maxRecDepth 100000 in
set_option maxHeartbeats 4000000 in
theorem m6_takeTexts_ok (σ : St) : Cok sy_cu yX6_takeTexts cX6_takeTexts 1 none 6 [.ref 0] σ (m6_takeTexts σ) := by
  refine cok_of (own := RX6) (by decide) rfl (fun ad => Nat.le_of_ble_eq_true rfl) (fun κ hκ => ?_)
  show Ab sy_cu κ 0 [sy_vr 0] [] σ (m6_takeTexts σ)
  unfold m6_takeTexts
  refine ab_aload_n hκ dX6_takeTexts_0 rfl ?_
  refine ab_getf (v := .ref 5) hκ (sy_o6 rfl) kf_RX6_24 rfl dX6_takeTexts_1 rfl ?_
  refine ab_aload_n hκ dX6_takeTexts_4 rfl ?_
  refine ab_getf (v := .ref 1) hκ (sy_o6 rfl) kf_RX6_14 rfl dX6_takeTexts_5 rfl ?_
  refine ab_cVv (vs := [.ref 1]) (st := []) hκ dX6_takeTexts_8 kl_RX6_373 ki_X0_takePlayers kv_X0_takePlayers (sy_o0 (Or.inl rfl)) rfl rfl (m0_takePlayers_ok 5 1 (Or.inl rfl) (Or.inl rfl) σ) rfl (by decide) (Nat.le_of_ble_eq_true rfl) rfl (fun _ σ1 => ?_)
  refine ab_aload_n hκ dX6_takeTexts_11 rfl ?_
  refine ab_getf (v := .ref 5) hκ (sy_o6 rfl) kf_RX6_24 rfl dX6_takeTexts_12 rfl ?_
  refine ab_aload_n hκ dX6_takeTexts_15 rfl ?_
  refine ab_getf (v := .ref 3) hκ (sy_o6 rfl) kf_RX6_18 rfl dX6_takeTexts_16 rfl ?_
  refine ab_cVv (vs := [.ref 3]) (st := []) hκ dX6_takeTexts_19 kl_RX6_377 ki_X0_takeNotes kv_X0_takeNotes (sy_o0 (Or.inl rfl)) rfl rfl (m0_takeNotes_ok 5 3 (Or.inl rfl) (Or.inr rfl) σ1) rfl (by decide) (Nat.le_of_ble_eq_true rfl) rfl (fun _ σ2 => ?_)
  refine ab_aload_n hκ dX6_takeTexts_22 rfl ?_
  refine ab_cVv (vs := []) (st := []) hκ dX6_takeTexts_23 kl_RX6_132 ki_X6_unlearn kv_X6_unlearn (sy_o6 rfl) rfl rfl (m6_unlearn_ok σ2) rfl (by decide) (Nat.le_of_ble_eq_true rfl) rfl (fun _ σ3 => ?_)
  exact ab_vret hκ dX6_takeTexts_26
-- BreathBand.type(II)I, depth 7
def m6_type (a1 : Int32) (a2 : Int32) (σ : St) : Option (Int32 × St) := sy_bd (m6_within a1 0 1 σ) (fun r2 σ1 => if r2 = 0 then (some ((-2), σ1)) else (sy_bd (m6_within a2 0 255 σ1) (fun r4 σ3 => if r4 = 0 then (some ((-2), σ3)) else (sy_bd (m6_textOf a1 σ3) (fun r6 σ5 => if sy_is5 r6 then (sy_bd (m5_append r6 a2 σ5) (fun r9 σ8 => if r9 = 0 then (some ((-4), σ8)) else (sy_bd (m6_takeTexts σ8) (fun _ σ10 => some ((σ10 r6 4), σ10))))) else none)))))
set_option maxRecDepth 100000 in
set_option maxHeartbeats 4000000 in
theorem m6_type_ok (a1 : Int32) (a2 : Int32) (σ : St) : Cok sy_vi yX6_type cX6_type 4 (some .int) 7 [.ref 0, .int a1, .int a2] σ (m6_type a1 a2 σ) := by
  refine cok_of (own := RX6) (by decide) rfl (fun ad => Nat.le_of_ble_eq_true rfl) (fun κ hκ => ?_)
  show Ab sy_vi κ 0 [sy_vr 0, sy_vi a1, sy_vi a2, none] [] σ (m6_type a1 a2 σ)
  unfold m6_type
  refine ab_iload_n hκ dX6_type_0 rfl ?_
  refine ab_iconst (v := 0) hκ dX6_type_1 rfl ?_
  refine ab_iconst (v := 1) hκ dX6_type_2 rfl ?_
  refine ab_cSi (vs := [.int a1, .int 0, .int 1]) (st := []) hκ dX6_type_3 kl_RX6_89 ki_X6_within kv_X6_within (m6_within_ok a1 0 1 σ) rfl (by decide) (Nat.le_of_ble_eq_true rfl) rfl (fun r2 σ1 => ?_)
  refine ab_if_eq (tgt := 20) hκ dX6_type_6 rfl ?_ ?_
  · refine ab_bipush (v := (-2)) hκ dX6_type_20 rfl ?_
    exact ab_iret hκ dX6_type_22
  · refine ab_iload_n hκ dX6_type_9 rfl ?_
    refine ab_iconst (v := 0) hκ dX6_type_10 rfl ?_
    refine ab_sipush (v := 255) hκ dX6_type_11 rfl ?_
    refine ab_cSi (vs := [.int a2, .int 0, .int 255]) (st := []) hκ dX6_type_14 kl_RX6_89 ki_X6_within kv_X6_within (m6_within_ok a2 0 255 σ1) rfl (by decide) (Nat.le_of_ble_eq_true rfl) rfl (fun r4 σ3 => ?_)
    refine ab_if_ne (tgt := 23) hκ dX6_type_17 rfl ?_ ?_
    · refine ab_aload_n hκ dX6_type_23 rfl ?_
      refine ab_iload_n hκ dX6_type_24 rfl ?_
      refine ab_cVr (vs := [.int a1]) (st := []) hκ dX6_type_25 kl_RX6_93 ki_X6_textOf kv_X6_textOf (sy_o6 rfl) rfl rfl (m6_textOf_ok a1 σ3) rfl (by decide) (Nat.le_of_ble_eq_true rfl) rfl (fun r6 σ5 => ?_)
      refine ab_if (fun h7 => ?_) (fun _ => ab_none)
      refine ab_astore_n (lv' := [sy_vr 0, sy_vi a1, sy_vi a2, sy_vr r6]) hκ dX6_type_28 rfl (by decide) rfl ?_
      refine ab_aload_n hκ dX6_type_29 rfl ?_
      refine ab_iload_n hκ dX6_type_30 rfl ?_
      refine ab_cVi (vs := [.int a2]) (st := []) hκ dX6_type_31 kl_RX6_97 ki_X5_append kv_X5_append (sy_o5 h7) rfl rfl (m5_append_ok r6 a2 h7 σ5) rfl (by decide) (Nat.le_of_ble_eq_true rfl) rfl (fun r9 σ8 => ?_)
      refine ab_if_ne (tgt := 40) hκ dX6_type_34 rfl ?_ ?_
      · refine ab_aload_n hκ dX6_type_40 rfl ?_
        refine ab_cVv (vs := []) (st := []) hκ dX6_type_41 kl_RX6_101 ki_X6_takeTexts kv_X6_takeTexts (sy_o6 rfl) rfl rfl (m6_takeTexts_ok σ8) rfl (by decide) (Nat.le_of_ble_eq_true rfl) rfl (fun _ σ10 => ?_)
        refine ab_aload_n hκ dX6_type_44 rfl ?_
        refine ab_getf (v := .int (σ10 r6 4)) hκ (sy_o5 h7) kf_RX6_104 rfl dX6_type_45 rfl ?_
        exact ab_iret hκ dX6_type_48
      · refine ab_bipush (v := (-4)) hκ dX6_type_37 rfl ?_
        exact ab_iret hκ dX6_type_39
    · refine ab_bipush (v := (-2)) hκ dX6_type_20 rfl ?_
      exact ab_iret hκ dX6_type_22
-- BreathBand.wipe(I)I, depth 7
def m6_wipe (a1 : Int32) (σ : St) : Option (Int32 × St) := sy_bd (m6_within a1 0 1 σ) (fun r2 σ1 => if r2 = 0 then (some ((-2), σ1)) else (sy_bd (m6_textOf a1 σ1) (fun r4 σ3 => if sy_is5 r4 then (sy_lt (σ3 r4 4) (fun v6 => sy_lt (sy_sf σ3 r4 4 0) (fun σ7 => sy_bd (m6_takeTexts σ7) (fun _ σ8 => some (v6, σ8))))) else none)))
set_option maxRecDepth 100000 in
set_option maxHeartbeats 4000000 in
theorem m6_wipe_ok (a1 : Int32) (σ : St) : Cok sy_vi yX6_wipe cX6_wipe 4 (some .int) 7 [.ref 0, .int a1] σ (m6_wipe a1 σ) := by
  refine cok_of (own := RX6) (by decide) rfl (fun ad => Nat.le_of_ble_eq_true rfl) (fun κ hκ => ?_)
  show Ab sy_vi κ 0 [sy_vr 0, sy_vi a1, none, none] [] σ (m6_wipe a1 σ)
  unfold m6_wipe
  refine ab_iload_n hκ dX6_wipe_0 rfl ?_
  refine ab_iconst (v := 0) hκ dX6_wipe_1 rfl ?_
  refine ab_iconst (v := 1) hκ dX6_wipe_2 rfl ?_
  refine ab_cSi (vs := [.int a1, .int 0, .int 1]) (st := []) hκ dX6_wipe_3 kl_RX6_89 ki_X6_within kv_X6_within (m6_within_ok a1 0 1 σ) rfl (by decide) (Nat.le_of_ble_eq_true rfl) rfl (fun r2 σ1 => ?_)
  refine ab_if_ne (tgt := 12) hκ dX6_wipe_6 rfl ?_ ?_
  · refine ab_aload_n hκ dX6_wipe_12 rfl ?_
    refine ab_iload_n hκ dX6_wipe_13 rfl ?_
    refine ab_cVr (vs := [.int a1]) (st := []) hκ dX6_wipe_14 kl_RX6_93 ki_X6_textOf kv_X6_textOf (sy_o6 rfl) rfl rfl (m6_textOf_ok a1 σ1) rfl (by decide) (Nat.le_of_ble_eq_true rfl) rfl (fun r4 σ3 => ?_)
    refine ab_if (fun h5 => ?_) (fun _ => ab_none)
    refine ab_astore_n (lv' := [sy_vr 0, sy_vi a1, sy_vr r4, none]) hκ dX6_wipe_17 rfl (by decide) rfl ?_
    refine ab_aload_n hκ dX6_wipe_18 rfl ?_
    refine ab_getf (v := .int (σ3 r4 4)) hκ (sy_o5 h5) kf_RX6_104 rfl dX6_wipe_19 rfl ?_
    refine ab_lti (fun v6 => ?_)
    refine ab_istore_n (lv' := [sy_vr 0, sy_vi a1, sy_vr r4, sy_vi v6]) hκ dX6_wipe_22 rfl (by decide) rfl ?_
    refine ab_aload_n hκ dX6_wipe_23 rfl ?_
    refine ab_iconst (v := 0) hκ dX6_wipe_24 rfl ?_
    refine ab_putf hκ (sy_o5 h5) kp_RX6_104 rfl dX6_wipe_25 ?_
    refine ab_lts (fun σ7 => ?_)
    refine ab_aload_n hκ dX6_wipe_28 rfl ?_
    refine ab_cVv (vs := []) (st := []) hκ dX6_wipe_29 kl_RX6_101 ki_X6_takeTexts kv_X6_takeTexts (sy_o6 rfl) rfl rfl (m6_takeTexts_ok σ7) rfl (by decide) (Nat.le_of_ble_eq_true rfl) rfl (fun _ σ8 => ?_)
    refine ab_iload_n hκ dX6_wipe_32 rfl ?_
    exact ab_iret hκ dX6_wipe_33
  · refine ab_bipush (v := (-2)) hκ dX6_wipe_9 rfl ?_
    exact ab_iret hκ dX6_wipe_11
-- BreathBand.undo(I)I, depth 7
def m6_undo (a1 : Int32) (σ : St) : Option (Int32 × St) := sy_bd (m6_within a1 0 1 σ) (fun r2 σ1 => if r2 = 0 then (some ((-2), σ1)) else (sy_bd (m6_textOf a1 σ1) (fun r4 σ3 => if sy_is5 r4 then (if (σ3 r4 4) = 0 then (some ((-3), σ3)) else (sy_lt (sy_sf σ3 r4 4 ((σ3 r4 4) - 1)) (fun σ6 => sy_bd (m6_takeTexts σ6) (fun _ σ7 => some ((σ7 r4 4), σ7))))) else none)))
set_option maxRecDepth 100000 in
set_option maxHeartbeats 4000000 in
theorem m6_undo_ok (a1 : Int32) (σ : St) : Cok sy_vi yX6_undo cX6_undo 3 (some .int) 7 [.ref 0, .int a1] σ (m6_undo a1 σ) := by
  refine cok_of (own := RX6) (by decide) rfl (fun ad => Nat.le_of_ble_eq_true rfl) (fun κ hκ => ?_)
  show Ab sy_vi κ 0 [sy_vr 0, sy_vi a1, none] [] σ (m6_undo a1 σ)
  unfold m6_undo
  refine ab_iload_n hκ dX6_undo_0 rfl ?_
  refine ab_iconst (v := 0) hκ dX6_undo_1 rfl ?_
  refine ab_iconst (v := 1) hκ dX6_undo_2 rfl ?_
  refine ab_cSi (vs := [.int a1, .int 0, .int 1]) (st := []) hκ dX6_undo_3 kl_RX6_89 ki_X6_within kv_X6_within (m6_within_ok a1 0 1 σ) rfl (by decide) (Nat.le_of_ble_eq_true rfl) rfl (fun r2 σ1 => ?_)
  refine ab_if_ne (tgt := 12) hκ dX6_undo_6 rfl ?_ ?_
  · refine ab_aload_n hκ dX6_undo_12 rfl ?_
    refine ab_iload_n hκ dX6_undo_13 rfl ?_
    refine ab_cVr (vs := [.int a1]) (st := []) hκ dX6_undo_14 kl_RX6_93 ki_X6_textOf kv_X6_textOf (sy_o6 rfl) rfl rfl (m6_textOf_ok a1 σ1) rfl (by decide) (Nat.le_of_ble_eq_true rfl) rfl (fun r4 σ3 => ?_)
    refine ab_if (fun h5 => ?_) (fun _ => ab_none)
    refine ab_astore_n (lv' := [sy_vr 0, sy_vi a1, sy_vr r4]) hκ dX6_undo_17 rfl (by decide) rfl ?_
    refine ab_aload_n hκ dX6_undo_18 rfl ?_
    refine ab_getf (v := .int (σ3 r4 4)) hκ (sy_o5 h5) kf_RX6_104 rfl dX6_undo_19 rfl ?_
    refine ab_if_ne (tgt := 28) hκ dX6_undo_22 rfl ?_ ?_
    · refine ab_aload_n hκ dX6_undo_28 rfl ?_
      refine ab_dupa hκ dX6_undo_29 ?_
      refine ab_getf (v := .int (σ3 r4 4)) hκ (sy_o5 h5) kf_RX6_104 rfl dX6_undo_30 rfl ?_
      refine ab_iconst (v := 1) hκ dX6_undo_33 rfl ?_
      refine ab_isub hκ dX6_undo_34 ?_
      refine ab_putf hκ (sy_o5 h5) kp_RX6_104 rfl dX6_undo_35 ?_
      refine ab_lts (fun σ6 => ?_)
      refine ab_aload_n hκ dX6_undo_38 rfl ?_
      refine ab_cVv (vs := []) (st := []) hκ dX6_undo_39 kl_RX6_101 ki_X6_takeTexts kv_X6_takeTexts (sy_o6 rfl) rfl rfl (m6_takeTexts_ok σ6) rfl (by decide) (Nat.le_of_ble_eq_true rfl) rfl (fun _ σ7 => ?_)
      refine ab_aload_n hκ dX6_undo_42 rfl ?_
      refine ab_getf (v := .int (σ7 r4 4)) hκ (sy_o5 h5) kf_RX6_104 rfl dX6_undo_43 rfl ?_
      exact ab_iret hκ dX6_undo_46
    · refine ab_bipush (v := (-3)) hκ dX6_undo_25 rfl ?_
      exact ab_iret hκ dX6_undo_27
  · refine ab_bipush (v := (-2)) hκ dX6_undo_9 rfl ?_
    exact ab_iret hκ dX6_undo_11
-- BreathBand.fault(I)I, depth 4
def m6_fault (a1 : Int32) (σ : St) : Option (Int32 × St) := sy_bd (m6_within a1 0 1 σ) (fun r2 σ1 => if r2 = 0 then (some ((-2), σ1)) else (sy_bd (m6_textOf a1 σ1) (fun r4 σ3 => if sy_is5 r4 then (sy_bd (m5_faultPlace r4 σ3) (fun r7 σ6 => some (r7, σ6))) else none)))
set_option maxRecDepth 100000 in
set_option maxHeartbeats 4000000 in
theorem m6_fault_ok (a1 : Int32) (σ : St) : Cok sy_vi yX6_fault cX6_fault 2 (some .int) 4 [.ref 0, .int a1] σ (m6_fault a1 σ) := by
  refine cok_of (own := RX6) (by decide) rfl (fun ad => Nat.le_of_ble_eq_true rfl) (fun κ hκ => ?_)
  show Ab sy_vi κ 0 [sy_vr 0, sy_vi a1] [] σ (m6_fault a1 σ)
  unfold m6_fault
  refine ab_iload_n hκ dX6_fault_0 rfl ?_
  refine ab_iconst (v := 0) hκ dX6_fault_1 rfl ?_
  refine ab_iconst (v := 1) hκ dX6_fault_2 rfl ?_
  refine ab_cSi (vs := [.int a1, .int 0, .int 1]) (st := []) hκ dX6_fault_3 kl_RX6_89 ki_X6_within kv_X6_within (m6_within_ok a1 0 1 σ) rfl (by decide) (Nat.le_of_ble_eq_true rfl) rfl (fun r2 σ1 => ?_)
  refine ab_if_ne (tgt := 12) hκ dX6_fault_6 rfl ?_ ?_
  · refine ab_aload_n hκ dX6_fault_12 rfl ?_
    refine ab_iload_n hκ dX6_fault_13 rfl ?_
    refine ab_cVr (vs := [.int a1]) (st := []) hκ dX6_fault_14 kl_RX6_93 ki_X6_textOf kv_X6_textOf (sy_o6 rfl) rfl rfl (m6_textOf_ok a1 σ1) rfl (by decide) (Nat.le_of_ble_eq_true rfl) rfl (fun r4 σ3 => ?_)
    refine ab_if (fun h5 => ?_) (fun _ => ab_none)
    refine ab_cVi (vs := []) (st := []) hκ dX6_fault_17 kl_RX6_107 ki_X5_faultPlace kv_X5_faultPlace (sy_o5 h5) rfl rfl (m5_faultPlace_ok r4 h5 σ3) rfl (by decide) (Nat.le_of_ble_eq_true rfl) rfl (fun r7 σ6 => ?_)
    exact ab_iret hκ dX6_fault_20
  · refine ab_bipush (v := (-2)) hκ dX6_fault_9 rfl ?_
    exact ab_iret hκ dX6_fault_11
-- BreathBand.isPlayer(I)Z, depth 1
def m6_isPlayer (a1 : Int32) (σ : St) : Option (Int32 × St) := sy_bd (m6_within a1 0 ((σ 5 0) - 1) σ) (fun r2 σ1 => sy_zg r2 (some (r2, σ1)))
set_option maxRecDepth 100000 in
set_option maxHeartbeats 4000000 in
theorem m6_isPlayer_ok (a1 : Int32) (σ : St) : Cok sy_vi yX6_isPlayer cX6_isPlayer 2 (some .boolean) 1 [.ref 0, .int a1] σ (m6_isPlayer a1 σ) := by
  refine cok_of (own := RX6) (by decide) rfl (fun ad => Nat.le_of_ble_eq_true rfl) (fun κ hκ => ?_)
  show Ab sy_vi κ 0 [sy_vr 0, sy_vi a1] [] σ (m6_isPlayer a1 σ)
  unfold m6_isPlayer
  refine ab_iload_n hκ dX6_isPlayer_0 rfl ?_
  refine ab_iconst (v := 0) hκ dX6_isPlayer_1 rfl ?_
  refine ab_aload_n hκ dX6_isPlayer_2 rfl ?_
  refine ab_getf (v := .ref 5) hκ (sy_o6 rfl) kf_RX6_24 rfl dX6_isPlayer_3 rfl ?_
  refine ab_getf (v := .int (σ 5 0)) hκ (sy_o0 (Or.inl rfl)) kf_RX6_193 rfl dX6_isPlayer_6 rfl ?_
  refine ab_iconst (v := 1) hκ dX6_isPlayer_9 rfl ?_
  refine ab_isub hκ dX6_isPlayer_10 ?_
  refine ab_cSi (vs := [.int a1, .int 0, .int ((σ 5 0) - 1)]) (st := []) hκ dX6_isPlayer_11 kl_RX6_89 ki_X6_within kv_X6_within (m6_within_ok a1 0 ((σ 5 0) - 1) σ) rfl (by decide) (Nat.le_of_ble_eq_true rfl) rfl (fun r2 σ1 => ?_)
  exact ab_zret hκ dX6_isPlayer_14
-- BreathBand.player(II)I, depth 2
def m6_player (a1 : Int32) (a2 : Int32) (σ : St) : Option (Int32 × St) := sy_bd (m6_isPlayer a1 σ) (fun r2 σ1 => if r2 = 0 then (some ((-2), σ1)) else (sy_bd (m6_within a2 0 1 σ1) (fun r4 σ3 => if r4 = 0 then (some ((-2), σ3)) else (if a2 = 0 then (sy_gd a1 11 (some ((σ3 6 (sy_ix a1)), σ3))) else (sy_gd a1 11 (some ((σ3 7 (sy_ix a1)), σ3)))))))
set_option maxRecDepth 100000 in
set_option maxHeartbeats 4000000 in
theorem m6_player_ok (a1 : Int32) (a2 : Int32) (σ : St) : Cok sy_vi yX6_player cX6_player 3 (some .int) 2 [.ref 0, .int a1, .int a2] σ (m6_player a1 a2 σ) := by
  refine cok_of (own := RX6) (by decide) rfl (fun ad => Nat.le_of_ble_eq_true rfl) (fun κ hκ => ?_)
  show Ab sy_vi κ 0 [sy_vr 0, sy_vi a1, sy_vi a2] [] σ (m6_player a1 a2 σ)
  unfold m6_player
  refine ab_aload_n hκ dX6_player_0 rfl ?_
  refine ab_iload_n hκ dX6_player_1 rfl ?_
  refine ab_cVi (vs := [.int a1]) (st := []) hκ dX6_player_2 kl_RX6_111 ki_X6_isPlayer kv_X6_isPlayer (sy_o6 rfl) rfl rfl (m6_isPlayer_ok a1 σ) rfl (by decide) (Nat.le_of_ble_eq_true rfl) rfl (fun r2 σ1 => ?_)
  refine ab_if_eq (tgt := 17) hκ dX6_player_5 rfl ?_ ?_
  · refine ab_bipush (v := (-2)) hκ dX6_player_17 rfl ?_
    exact ab_iret hκ dX6_player_19
  · refine ab_iload_n hκ dX6_player_8 rfl ?_
    refine ab_iconst (v := 0) hκ dX6_player_9 rfl ?_
    refine ab_iconst (v := 1) hκ dX6_player_10 rfl ?_
    refine ab_cSi (vs := [.int a2, .int 0, .int 1]) (st := []) hκ dX6_player_11 kl_RX6_89 ki_X6_within kv_X6_within (m6_within_ok a2 0 1 σ1) rfl (by decide) (Nat.le_of_ble_eq_true rfl) rfl (fun r4 σ3 => ?_)
    refine ab_if_ne (tgt := 20) hκ dX6_player_14 rfl ?_ ?_
    · refine ab_iload_n hκ dX6_player_20 rfl ?_
      refine ab_if_ne (tgt := 36) hκ dX6_player_21 rfl ?_ ?_
      · refine ab_aload_n hκ dX6_player_36 rfl ?_
        refine ab_getf (v := .ref 5) hκ (sy_o6 rfl) kf_RX6_24 rfl dX6_player_37 rfl ?_
        refine ab_getf (v := .ref 7) hκ (sy_o0 (Or.inl rfl)) kf_RX6_117 rfl dX6_player_40 rfl ?_
        refine ab_iload_n hκ dX6_player_43 rfl ?_
        refine ab_iald hκ rfl dX6_player_44 ?_
        exact ab_iret hκ dX6_player_45
      · refine ab_aload_n hκ dX6_player_24 rfl ?_
        refine ab_getf (v := .ref 5) hκ (sy_o6 rfl) kf_RX6_24 rfl dX6_player_25 rfl ?_
        refine ab_getf (v := .ref 6) hκ (sy_o0 (Or.inl rfl)) kf_RX6_114 rfl dX6_player_28 rfl ?_
        refine ab_iload_n hκ dX6_player_31 rfl ?_
        refine ab_iald hκ rfl dX6_player_32 ?_
        refine ab_goto (tgt := 45) hκ dX6_player_33 rfl ?_
        exact ab_iret hκ dX6_player_45
    · refine ab_bipush (v := (-2)) hκ dX6_player_17 rfl ?_
      exact ab_iret hκ dX6_player_19
-- BreathBand.note(II)I, depth 1
def m6_note (a1 : Int32) (a2 : Int32) (σ : St) : Option (Int32 × St) := sy_bd (m6_within a1 0 15 σ) (fun r2 σ1 => if r2 = 0 then (some ((-2), σ1)) else (sy_bd (m6_within a2 0 1 σ1) (fun r4 σ3 => if r4 = 0 then (some ((-2), σ3)) else (if a1 < (σ3 5 5) then (if a2 = 0 then (sy_gd a1 16 (some ((σ3 10 (sy_ix a1)), σ3))) else (sy_gd a1 16 (some ((σ3 11 (sy_ix a1)), σ3)))) else (some ((-1), σ3))))))
set_option maxRecDepth 100000 in
set_option maxHeartbeats 4000000 in
theorem m6_note_ok (a1 : Int32) (a2 : Int32) (σ : St) : Cok sy_vi yX6_note cX6_note 3 (some .int) 1 [.ref 0, .int a1, .int a2] σ (m6_note a1 a2 σ) := by
  refine cok_of (own := RX6) (by decide) rfl (fun ad => Nat.le_of_ble_eq_true rfl) (fun κ hκ => ?_)
  show Ab sy_vi κ 0 [sy_vr 0, sy_vi a1, sy_vi a2] [] σ (m6_note a1 a2 σ)
  unfold m6_note
  refine ab_iload_n hκ dX6_note_0 rfl ?_
  refine ab_iconst (v := 0) hκ dX6_note_1 rfl ?_
  refine ab_bipush (v := 15) hκ dX6_note_2 rfl ?_
  refine ab_cSi (vs := [.int a1, .int 0, .int 15]) (st := []) hκ dX6_note_4 kl_RX6_89 ki_X6_within kv_X6_within (m6_within_ok a1 0 15 σ) rfl (by decide) (Nat.le_of_ble_eq_true rfl) rfl (fun r2 σ1 => ?_)
  refine ab_if_eq (tgt := 19) hκ dX6_note_7 rfl ?_ ?_
  · refine ab_bipush (v := (-2)) hκ dX6_note_19 rfl ?_
    exact ab_iret hκ dX6_note_21
  · refine ab_iload_n hκ dX6_note_10 rfl ?_
    refine ab_iconst (v := 0) hκ dX6_note_11 rfl ?_
    refine ab_iconst (v := 1) hκ dX6_note_12 rfl ?_
    refine ab_cSi (vs := [.int a2, .int 0, .int 1]) (st := []) hκ dX6_note_13 kl_RX6_89 ki_X6_within kv_X6_within (m6_within_ok a2 0 1 σ1) rfl (by decide) (Nat.le_of_ble_eq_true rfl) rfl (fun r4 σ3 => ?_)
    refine ab_if_ne (tgt := 22) hκ dX6_note_16 rfl ?_ ?_
    · refine ab_iload_n hκ dX6_note_22 rfl ?_
      refine ab_aload_n hκ dX6_note_23 rfl ?_
      refine ab_getf (v := .ref 5) hκ (sy_o6 rfl) kf_RX6_24 rfl dX6_note_24 rfl ?_
      refine ab_getf (v := .int (σ3 5 5)) hκ (sy_o0 (Or.inl rfl)) kf_RX6_120 rfl dX6_note_27 rfl ?_
      refine ab_icmp_lt (tgt := 35) hκ dX6_note_30 rfl ?_ ?_
      · refine ab_iload_n hκ dX6_note_35 rfl ?_
        refine ab_if_ne (tgt := 51) hκ dX6_note_36 rfl ?_ ?_
        · refine ab_aload_n hκ dX6_note_51 rfl ?_
          refine ab_getf (v := .ref 5) hκ (sy_o6 rfl) kf_RX6_24 rfl dX6_note_52 rfl ?_
          refine ab_getf (v := .ref 11) hκ (sy_o0 (Or.inl rfl)) kf_RX6_126 rfl dX6_note_55 rfl ?_
          refine ab_iload_n hκ dX6_note_58 rfl ?_
          refine ab_iald hκ rfl dX6_note_59 ?_
          exact ab_iret hκ dX6_note_60
        · refine ab_aload_n hκ dX6_note_39 rfl ?_
          refine ab_getf (v := .ref 5) hκ (sy_o6 rfl) kf_RX6_24 rfl dX6_note_40 rfl ?_
          refine ab_getf (v := .ref 10) hκ (sy_o0 (Or.inl rfl)) kf_RX6_123 rfl dX6_note_43 rfl ?_
          refine ab_iload_n hκ dX6_note_46 rfl ?_
          refine ab_iald hκ rfl dX6_note_47 ?_
          refine ab_goto (tgt := 60) hκ dX6_note_48 rfl ?_
          exact ab_iret hκ dX6_note_60
      · refine ab_iconst (v := (-1)) hκ dX6_note_33 rfl ?_
        exact ab_iret hκ dX6_note_34
    · refine ab_bipush (v := (-2)) hκ dX6_note_19 rfl ?_
      exact ab_iret hκ dX6_note_21
-- BreathBand.bag(I)I, depth 1
def m6_bag (a1 : Int32) (σ : St) : Option (Int32 × St) := sy_bd (m6_within a1 1 99 σ) (fun r2 σ1 => if r2 = 0 then (some ((-2), σ1)) else (sy_lt (σ1 5 9) (fun v3 => sy_lt (sy_sf σ1 5 9 a1) (fun σ4 => sy_bd (m6_unlearn σ4) (fun _ σ5 => some (v3, σ5))))))
set_option maxRecDepth 100000 in
set_option maxHeartbeats 4000000 in
theorem m6_bag_ok (a1 : Int32) (σ : St) : Cok sy_vi yX6_bag cX6_bag 3 (some .int) 1 [.ref 0, .int a1] σ (m6_bag a1 σ) := by
  refine cok_of (own := RX6) (by decide) rfl (fun ad => Nat.le_of_ble_eq_true rfl) (fun κ hκ => ?_)
  show Ab sy_vi κ 0 [sy_vr 0, sy_vi a1, none] [] σ (m6_bag a1 σ)
  unfold m6_bag
  refine ab_iload_n hκ dX6_bag_0 rfl ?_
  refine ab_iconst (v := 1) hκ dX6_bag_1 rfl ?_
  refine ab_bipush (v := 99) hκ dX6_bag_2 rfl ?_
  refine ab_cSi (vs := [.int a1, .int 1, .int 99]) (st := []) hκ dX6_bag_4 kl_RX6_89 ki_X6_within kv_X6_within (m6_within_ok a1 1 99 σ) rfl (by decide) (Nat.le_of_ble_eq_true rfl) rfl (fun r2 σ1 => ?_)
  refine ab_if_ne (tgt := 13) hκ dX6_bag_7 rfl ?_ ?_
  · refine ab_aload_n hκ dX6_bag_13 rfl ?_
    refine ab_getf (v := .ref 5) hκ (sy_o6 rfl) kf_RX6_24 rfl dX6_bag_14 rfl ?_
    refine ab_getf (v := .int (σ1 5 9)) hκ (sy_o0 (Or.inl rfl)) kf_RX6_129 rfl dX6_bag_17 rfl ?_
    refine ab_lti (fun v3 => ?_)
    refine ab_istore_n (lv' := [sy_vr 0, sy_vi a1, sy_vi v3]) hκ dX6_bag_20 rfl (by decide) rfl ?_
    refine ab_aload_n hκ dX6_bag_21 rfl ?_
    refine ab_getf (v := .ref 5) hκ (sy_o6 rfl) kf_RX6_24 rfl dX6_bag_22 rfl ?_
    refine ab_iload_n hκ dX6_bag_25 rfl ?_
    refine ab_putf hκ (sy_o0 (Or.inl rfl)) kp_RX6_129 rfl dX6_bag_26 ?_
    refine ab_lts (fun σ4 => ?_)
    refine ab_aload_n hκ dX6_bag_29 rfl ?_
    refine ab_cVv (vs := []) (st := []) hκ dX6_bag_30 kl_RX6_132 ki_X6_unlearn kv_X6_unlearn (sy_o6 rfl) rfl rfl (m6_unlearn_ok σ4) rfl (by decide) (Nat.le_of_ble_eq_true rfl) rfl (fun _ σ5 => ?_)
    refine ab_iload_n hκ dX6_bag_33 rfl ?_
    exact ab_iret hκ dX6_bag_34
  · refine ab_bipush (v := (-2)) hκ dX6_bag_10 rfl ?_
    exact ab_iret hκ dX6_bag_12
-- BreathBand.isEvent(II)Z, depth 1
def m6_isEvent (a1 : Int32) (a2 : Int32) (σ : St) : Option (Int32 × St) := sy_bd (m6_within a1 0 2 σ) (fun r2 σ1 => if r2 = 0 then (sy_zg 0 (some (0, σ1))) else (sy_bd (m6_within a2 0 23 σ1) (fun r4 σ3 => if r4 = 0 then (sy_zg 0 (some (0, σ3))) else (sy_zg 1 (some (1, σ3))))))
set_option maxRecDepth 100000 in
set_option maxHeartbeats 4000000 in
theorem m6_isEvent_ok (a1 : Int32) (a2 : Int32) (σ : St) : Cok sy_vi yX6_isEvent cX6_isEvent 2 (some .boolean) 1 [.int a1, .int a2] σ (m6_isEvent a1 a2 σ) := by
  refine cok_of (own := RX6) (by decide) rfl (fun ad => Nat.le_of_ble_eq_true rfl) (fun κ hκ => ?_)
  show Ab sy_vi κ 0 [sy_vi a1, sy_vi a2] [] σ (m6_isEvent a1 a2 σ)
  unfold m6_isEvent
  refine ab_iload_n hκ dX6_isEvent_0 rfl ?_
  refine ab_iconst (v := 0) hκ dX6_isEvent_1 rfl ?_
  refine ab_iconst (v := 2) hκ dX6_isEvent_2 rfl ?_
  refine ab_cSi (vs := [.int a1, .int 0, .int 2]) (st := []) hκ dX6_isEvent_3 kl_RX6_89 ki_X6_within kv_X6_within (m6_within_ok a1 0 2 σ) rfl (by decide) (Nat.le_of_ble_eq_true rfl) rfl (fun r2 σ1 => ?_)
  refine ab_if_eq (tgt := 23) hκ dX6_isEvent_6 rfl ?_ ?_
  · refine ab_iconst (v := 0) hκ dX6_isEvent_23 rfl ?_
    exact ab_zret hκ dX6_isEvent_24
  · refine ab_iload_n hκ dX6_isEvent_9 rfl ?_
    refine ab_iconst (v := 0) hκ dX6_isEvent_10 rfl ?_
    refine ab_bipush (v := 23) hκ dX6_isEvent_11 rfl ?_
    refine ab_cSi (vs := [.int a2, .int 0, .int 23]) (st := []) hκ dX6_isEvent_13 kl_RX6_89 ki_X6_within kv_X6_within (m6_within_ok a2 0 23 σ1) rfl (by decide) (Nat.le_of_ble_eq_true rfl) rfl (fun r4 σ3 => ?_)
    refine ab_if_eq (tgt := 23) hκ dX6_isEvent_16 rfl ?_ ?_
    · refine ab_iconst (v := 0) hκ dX6_isEvent_23 rfl ?_
      exact ab_zret hκ dX6_isEvent_24
    · refine ab_iconst (v := 1) hκ dX6_isEvent_19 rfl ?_
      refine ab_goto (tgt := 24) hκ dX6_isEvent_20 rfl ?_
      exact ab_zret hκ dX6_isEvent_24
-- BreathBand$Band.addEvent(II)Z, depth 2
def m0_addEvent (this : Nat) (a1 : Int32) (a2 : Int32) (σ : St) : Option (Int32 × St) := if 8 ≤ (σ this 10) then (sy_zg 0 (some (0, σ))) else (sy_bd (m6_isEvent a1 a2 σ) (fun r2 σ1 => if r2 = 0 then (sy_zg 0 (some (0, σ1))) else (sy_gd (σ1 this 10) 8 (sy_lt (sy_sf σ1 (this + 8) (sy_ix (σ1 this 10)) a1) (fun σ3 => sy_gd (σ3 this 10) 8 (sy_lt (sy_sf σ3 (this + 9) (sy_ix (σ3 this 10)) a2) (fun σ4 => sy_lt (sy_sf σ4 this 10 ((σ4 this 10) + 1)) (fun σ5 => sy_zg 1 (some (1, σ5))))))))))
set_option maxRecDepth 100000 in
set_option maxHeartbeats 4000000 in
theorem m0_addEvent_ok (this : Nat) (a1 : Int32) (a2 : Int32) (hthis : sy_is0 this) (σ : St) : Cok sy_vi yX0_addEvent cX0_addEvent 3 (some .boolean) 2 [.ref this, .int a1, .int a2] σ (m0_addEvent this a1 a2 σ) := by
  refine cok_of (own := RX0) (by decide) rfl (fun ad => Nat.le_of_ble_eq_true rfl) (fun κ hκ => ?_)
  show Ab sy_vi κ 0 [sy_vr this, sy_vi a1, sy_vi a2] [] σ (m0_addEvent this a1 a2 σ)
  unfold m0_addEvent
  refine ab_aload_n hκ dX0_addEvent_0 rfl ?_
  refine ab_getf (v := .int (σ this 10)) hκ (sy_o0 hthis) kf_RX0_43 rfl dX0_addEvent_1 rfl ?_
  refine ab_bipush (v := 8) hκ dX0_addEvent_4 rfl ?_
  refine ab_icmp_ge (tgt := 17) hκ dX0_addEvent_6 rfl ?_ ?_
  · refine ab_iconst (v := 0) hκ dX0_addEvent_17 rfl ?_
    exact ab_zret hκ dX0_addEvent_18
  · refine ab_iload_n hκ dX0_addEvent_9 rfl ?_
    refine ab_iload_n hκ dX0_addEvent_10 rfl ?_
    refine ab_cNi (vs := [.int a1, .int a2]) (st := []) hκ dX0_addEvent_11 (fun _ n1 n2 => n2) ki_X6_isEvent kv_X6_isEvent (m6_isEvent_ok a1 a2 σ) rfl (by decide) (Nat.le_of_ble_eq_true rfl) rfl (fun r2 σ1 => ?_)
    refine ab_if_ne (tgt := 19) hκ dX0_addEvent_14 rfl ?_ ?_
    · refine ab_aload_n hκ dX0_addEvent_19 rfl ?_
      refine ab_getf (v := .ref (this + 8)) hκ (sy_o0 hthis) kf_RX0_46 rfl dX0_addEvent_20 rfl ?_
      refine ab_aload_n hκ dX0_addEvent_23 rfl ?_
      refine ab_getf (v := .int (σ1 this 10)) hκ (sy_o0 hthis) kf_RX0_43 rfl dX0_addEvent_24 rfl ?_
      refine ab_iload_n hκ dX0_addEvent_27 rfl ?_
      refine ab_iast hκ (sy_a0_11 hthis) dX0_addEvent_28 ?_
      refine ab_lts (fun σ3 => ?_)
      refine ab_aload_n hκ dX0_addEvent_29 rfl ?_
      refine ab_getf (v := .ref (this + 9)) hκ (sy_o0 hthis) kf_RX0_49 rfl dX0_addEvent_30 rfl ?_
      refine ab_aload_n hκ dX0_addEvent_33 rfl ?_
      refine ab_getf (v := .int (σ3 this 10)) hκ (sy_o0 hthis) kf_RX0_43 rfl dX0_addEvent_34 rfl ?_
      refine ab_iload_n hκ dX0_addEvent_37 rfl ?_
      refine ab_iast hκ (sy_a0_12 hthis) dX0_addEvent_38 ?_
      refine ab_lts (fun σ4 => ?_)
      refine ab_aload_n hκ dX0_addEvent_39 rfl ?_
      refine ab_dupa hκ dX0_addEvent_40 ?_
      refine ab_getf (v := .int (σ4 this 10)) hκ (sy_o0 hthis) kf_RX0_43 rfl dX0_addEvent_41 rfl ?_
      refine ab_iconst (v := 1) hκ dX0_addEvent_44 rfl ?_
      refine ab_iadd hκ dX0_addEvent_45 ?_
      refine ab_putf hκ (sy_o0 hthis) kp_RX0_43 rfl dX0_addEvent_46 ?_
      refine ab_lts (fun σ5 => ?_)
      refine ab_iconst (v := 1) hκ dX0_addEvent_49 rfl ?_
      exact ab_zret hκ dX0_addEvent_50
    · refine ab_iconst (v := 0) hκ dX0_addEvent_17 rfl ?_
      exact ab_zret hκ dX0_addEvent_18
-- BreathBand.event(II)I, depth 3
def m6_event (a1 : Int32) (a2 : Int32) (σ : St) : Option (Int32 × St) := sy_bd (m6_isEvent a1 a2 σ) (fun r2 σ1 => if r2 = 0 then (some ((-2), σ1)) else (sy_bd (m0_addEvent 5 a1 a2 σ1) (fun r4 σ3 => if r4 = 0 then (some ((-4), σ3)) else (sy_bd (m6_unlearn σ3) (fun _ σ5 => some ((σ5 5 10), σ5))))))
set_option maxRecDepth 100000 in
set_option maxHeartbeats 4000000 in
theorem m6_event_ok (a1 : Int32) (a2 : Int32) (σ : St) : Cok sy_vi yX6_event cX6_event 3 (some .int) 3 [.ref 0, .int a1, .int a2] σ (m6_event a1 a2 σ) := by
  refine cok_of (own := RX6) (by decide) rfl (fun ad => Nat.le_of_ble_eq_true rfl) (fun κ hκ => ?_)
  show Ab sy_vi κ 0 [sy_vr 0, sy_vi a1, sy_vi a2] [] σ (m6_event a1 a2 σ)
  unfold m6_event
  refine ab_iload_n hκ dX6_event_0 rfl ?_
  refine ab_iload_n hκ dX6_event_1 rfl ?_
  refine ab_cSi (vs := [.int a1, .int a2]) (st := []) hκ dX6_event_2 kl_RX6_135 ki_X6_isEvent kv_X6_isEvent (m6_isEvent_ok a1 a2 σ) rfl (by decide) (Nat.le_of_ble_eq_true rfl) rfl (fun r2 σ1 => ?_)
  refine ab_if_ne (tgt := 11) hκ dX6_event_5 rfl ?_ ?_
  · refine ab_aload_n hκ dX6_event_11 rfl ?_
    refine ab_getf (v := .ref 5) hκ (sy_o6 rfl) kf_RX6_24 rfl dX6_event_12 rfl ?_
    refine ab_iload_n hκ dX6_event_15 rfl ?_
    refine ab_iload_n hκ dX6_event_16 rfl ?_
    refine ab_cVi (vs := [.int a1, .int a2]) (st := []) hκ dX6_event_17 kl_RX6_139 ki_X0_addEvent kv_X0_addEvent (sy_o0 (Or.inl rfl)) rfl rfl (m0_addEvent_ok 5 a1 a2 (Or.inl rfl) σ1) rfl (by decide) (Nat.le_of_ble_eq_true rfl) rfl (fun r4 σ3 => ?_)
    refine ab_if_ne (tgt := 26) hκ dX6_event_20 rfl ?_ ?_
    · refine ab_aload_n hκ dX6_event_26 rfl ?_
      refine ab_cVv (vs := []) (st := []) hκ dX6_event_27 kl_RX6_132 ki_X6_unlearn kv_X6_unlearn (sy_o6 rfl) rfl rfl (m6_unlearn_ok σ3) rfl (by decide) (Nat.le_of_ble_eq_true rfl) rfl (fun _ σ5 => ?_)
      refine ab_aload_n hκ dX6_event_30 rfl ?_
      refine ab_getf (v := .ref 5) hκ (sy_o6 rfl) kf_RX6_24 rfl dX6_event_31 rfl ?_
      refine ab_getf (v := .int (σ5 5 10)) hκ (sy_o0 (Or.inl rfl)) kf_RX6_142 rfl dX6_event_34 rfl ?_
      exact ab_iret hκ dX6_event_37
    · refine ab_bipush (v := (-4)) hκ dX6_event_23 rfl ?_
      exact ab_iret hκ dX6_event_25
  · refine ab_bipush (v := (-2)) hκ dX6_event_8 rfl ?_
    exact ab_iret hκ dX6_event_10
-- BreathBand.back()I, depth 1
def m6_back (σ : St) : Option (Int32 × St) := if (σ 5 10) = 0 then (some ((-3), σ)) else (sy_lt (sy_sf σ 5 10 ((σ 5 10) - 1)) (fun σ1 => sy_bd (m6_unlearn σ1) (fun _ σ2 => some ((σ2 5 10), σ2))))
set_option maxRecDepth 100000 in
set_option maxHeartbeats 4000000 in
theorem m6_back_ok (σ : St) : Cok sy_vi yX6_back cX6_back 1 (some .int) 1 [.ref 0] σ (m6_back σ) := by
  refine cok_of (own := RX6) (by decide) rfl (fun ad => Nat.le_of_ble_eq_true rfl) (fun κ hκ => ?_)
  show Ab sy_vi κ 0 [sy_vr 0] [] σ (m6_back σ)
  unfold m6_back
  refine ab_aload_n hκ dX6_back_0 rfl ?_
  refine ab_getf (v := .ref 5) hκ (sy_o6 rfl) kf_RX6_24 rfl dX6_back_1 rfl ?_
  refine ab_getf (v := .int (σ 5 10)) hκ (sy_o0 (Or.inl rfl)) kf_RX6_142 rfl dX6_back_4 rfl ?_
  refine ab_if_ne (tgt := 13) hκ dX6_back_7 rfl ?_ ?_
  · refine ab_aload_n hκ dX6_back_13 rfl ?_
    refine ab_getf (v := .ref 5) hκ (sy_o6 rfl) kf_RX6_24 rfl dX6_back_14 rfl ?_
    refine ab_dupa hκ dX6_back_17 ?_
    refine ab_getf (v := .int (σ 5 10)) hκ (sy_o0 (Or.inl rfl)) kf_RX6_142 rfl dX6_back_18 rfl ?_
    refine ab_iconst (v := 1) hκ dX6_back_21 rfl ?_
    refine ab_isub hκ dX6_back_22 ?_
    refine ab_putf hκ (sy_o0 (Or.inl rfl)) kp_RX6_142 rfl dX6_back_23 ?_
    refine ab_lts (fun σ1 => ?_)
    refine ab_aload_n hκ dX6_back_26 rfl ?_
    refine ab_cVv (vs := []) (st := []) hκ dX6_back_27 kl_RX6_132 ki_X6_unlearn kv_X6_unlearn (sy_o6 rfl) rfl rfl (m6_unlearn_ok σ1) rfl (by decide) (Nat.le_of_ble_eq_true rfl) rfl (fun _ σ2 => ?_)
    refine ab_aload_n hκ dX6_back_30 rfl ?_
    refine ab_getf (v := .ref 5) hκ (sy_o6 rfl) kf_RX6_24 rfl dX6_back_31 rfl ?_
    refine ab_getf (v := .int (σ2 5 10)) hκ (sy_o0 (Or.inl rfl)) kf_RX6_142 rfl dX6_back_34 rfl ?_
    exact ab_iret hκ dX6_back_37
  · refine ab_bipush (v := (-3)) hκ dX6_back_10 rfl ?_
    exact ab_iret hκ dX6_back_12
-- BreathBand.found(I)I, depth 0
def m6_found (a1 : Int32) (σ : St) : Option (Int32 × St) := sy_lt (sy_sf σ 0 16 a1) (fun σ1 => some (((-10) - a1), σ1))
set_option maxRecDepth 100000 in
set_option maxHeartbeats 4000000 in
theorem m6_found_ok (a1 : Int32) (σ : St) : Cok sy_vi yX6_found cX6_found 2 (some .int) 0 [.ref 0, .int a1] σ (m6_found a1 σ) := by
  refine cok_of (own := RX6) (by decide) rfl (fun ad => Nat.le_of_ble_eq_true rfl) (fun κ hκ => ?_)
  show Ab sy_vi κ 0 [sy_vr 0, sy_vi a1] [] σ (m6_found a1 σ)
  unfold m6_found
  refine ab_aload_n hκ dX6_found_0 rfl ?_
  refine ab_iload_n hκ dX6_found_1 rfl ?_
  refine ab_putf hκ (sy_o6 rfl) kp_RX6_84 rfl dX6_found_2 ?_
  refine ab_lts (fun σ1 => ?_)
  refine ab_bipush (v := (-10)) hκ dX6_found_5 rfl ?_
  refine ab_iload_n hκ dX6_found_7 rfl ?_
  refine ab_isub hκ dX6_found_8 ?_
  exact ab_iret hκ dX6_found_9
-- BreathBand.read(I)I, depth 3
def m6_read_L43b (c5 : Nat) (K43 : Int32 → Int32 → St → Option (Int32 × St)) (E43_88 : Int32 → St → Option (Int32 × St)) (E43_97 : Int32 → St → Option (Int32 × St)) (x7 : Int32) (x8 : Int32) (σ : St) : Option (Int32 × St) := if (σ c5 2) ≤ (x8 + 1) then (E43_97 x7 σ) else (sy_gd x8 60 (sy_lt (σ (c5 + 1) (sy_ix x8)) (fun v9 => sy_gd (x8 + 1) 60 (sy_lt (σ (c5 + 1) (sy_ix (x8 + 1))) (fun v10 => sy_bd (m0_addEvent 5 v9 v10 σ) (fun r12 σ11 => if r12 = 0 then (E43_88 x7 σ11) else (K43 x7 (x8 + 2) σ11)))))))
def m6_read_L43 (c5 : Nat) (E43_88 : Int32 → St → Option (Int32 × St)) (E43_97 : Int32 → St → Option (Int32 × St)) : Nat → Int32 → Int32 → St → Option (Int32 × St)
  | 0 => fun _ _ _ => none
  | n + 1 => m6_read_L43b c5 (m6_read_L43 c5 E43_88 E43_97 n) E43_88 E43_97
set_option maxRecDepth 100000 in
set_option maxHeartbeats 4000000 in
theorem m6_read_L43b_ok {κ : Kx} (hκ : Gd κ cX6_read 7 RX6 (some .int) 3) (c5 : Nat) (h6 : sy_is4 c5) {K43 : Int32 → Int32 → St → Option (Int32 × St)} (hK43 : ∀ (x7 : Int32) (x8 : Int32) (σ : St), Ab sy_vi κ 43 [sy_vr 0, none, sy_vr c5, sy_vi x7, sy_vi x8, none, none] [] σ (K43 x7 x8 σ)) {E43_88 : Int32 → St → Option (Int32 × St)} (hE43_88 : ∀ (y3 : Int32) (σ : St), Ab sy_vi κ 88 [sy_vr 0, none, none, sy_vi y3, none, none, none] [] σ (E43_88 y3 σ)) {E43_97 : Int32 → St → Option (Int32 × St)} (hE43_97 : ∀ (y3 : Int32) (σ : St), Ab sy_vi κ 97 [sy_vr 0, none, none, sy_vi y3, none, none, none] [] σ (E43_97 y3 σ)) (x7 : Int32) (x8 : Int32) (σ : St) : Ab sy_vi κ 43 [sy_vr 0, none, sy_vr c5, sy_vi x7, sy_vi x8, none, none] [] σ (m6_read_L43b c5 K43 E43_88 E43_97 x7 x8 σ) := by
  unfold m6_read_L43b
  refine ab_iload hκ dX6_read_43 rfl ?_
  refine ab_iconst (v := 1) hκ dX6_read_45 rfl ?_
  refine ab_iadd hκ dX6_read_46 ?_
  refine ab_aload_n hκ dX6_read_47 rfl ?_
  refine ab_getf (v := .int (σ c5 2)) hκ (sy_o4 h6) kf_RX6_152 rfl dX6_read_48 rfl ?_
  refine ab_icmp_ge (tgt := 97) hκ dX6_read_51 rfl ?_ ?_
  · refine ab_fg (lv' := [sy_vr 0, none, none, sy_vi x7, none, none, none]) [2, 4] rfl ?_
    exact hE43_97 x7 σ
  · refine ab_aload_n hκ dX6_read_54 rfl ?_
    refine ab_getf (v := .ref (c5 + 1)) hκ (sy_o4 h6) kf_RX6_153 rfl dX6_read_55 rfl ?_
    refine ab_iload hκ dX6_read_58 rfl ?_
    refine ab_iald hκ (sy_a4_3 h6) dX6_read_60 ?_
    refine ab_lti (fun v9 => ?_)
    refine ab_istore (lv' := [sy_vr 0, none, sy_vr c5, sy_vi x7, sy_vi x8, sy_vi v9, none]) hκ dX6_read_61 (by decide) rfl ?_
    refine ab_aload_n hκ dX6_read_63 rfl ?_
    refine ab_getf (v := .ref (c5 + 1)) hκ (sy_o4 h6) kf_RX6_153 rfl dX6_read_64 rfl ?_
    refine ab_iload hκ dX6_read_67 rfl ?_
    refine ab_iconst (v := 1) hκ dX6_read_69 rfl ?_
    refine ab_iadd hκ dX6_read_70 ?_
    refine ab_iald hκ (sy_a4_3 h6) dX6_read_71 ?_
    refine ab_lti (fun v10 => ?_)
    refine ab_istore (lv' := [sy_vr 0, none, sy_vr c5, sy_vi x7, sy_vi x8, sy_vi v9, sy_vi v10]) hκ dX6_read_72 (by decide) rfl ?_
    refine ab_aload_n hκ dX6_read_74 rfl ?_
    refine ab_getf (v := .ref 5) hκ (sy_o6 rfl) kf_RX6_24 rfl dX6_read_75 rfl ?_
    refine ab_iload hκ dX6_read_78 rfl ?_
    refine ab_iload hκ dX6_read_80 rfl ?_
    refine ab_cVi (vs := [.int v9, .int v10]) (st := []) hκ dX6_read_82 kl_RX6_139 ki_X0_addEvent kv_X0_addEvent (sy_o0 (Or.inl rfl)) rfl rfl (m0_addEvent_ok 5 v9 v10 (Or.inl rfl) σ) rfl (by decide) (Nat.le_of_ble_eq_true rfl) rfl (fun r12 σ11 => ?_)
    refine ab_if_ne (tgt := 91) hκ dX6_read_85 rfl ?_ ?_
    · refine ab_iinc (v := (x8 + 2)) (lv' := [sy_vr 0, none, sy_vr c5, sy_vi x7, sy_vi (x8 + 2), sy_vi v9, sy_vi v10]) hκ dX6_read_91 rfl rfl (by decide) rfl ?_
      refine ab_goto (tgt := 43) hκ dX6_read_94 rfl ?_
      refine ab_fg (lv' := [sy_vr 0, none, sy_vr c5, sy_vi x7, sy_vi (x8 + 2), none, none]) [5, 6] rfl ?_
      exact hK43 x7 (x8 + 2) σ11
    · refine ab_fg (lv' := [sy_vr 0, none, none, sy_vi x7, none, none, none]) [2, 4, 5, 6] rfl ?_
      exact hE43_88 x7 σ11
theorem m6_read_L43_ok {κ : Kx} (hκ : Gd κ cX6_read 7 RX6 (some .int) 3) (c5 : Nat) (h6 : sy_is4 c5) {E43_88 : Int32 → St → Option (Int32 × St)} (hE43_88 : ∀ (y3 : Int32) (σ : St), Ab sy_vi κ 88 [sy_vr 0, none, none, sy_vi y3, none, none, none] [] σ (E43_88 y3 σ)) {E43_97 : Int32 → St → Option (Int32 × St)} (hE43_97 : ∀ (y3 : Int32) (σ : St), Ab sy_vi κ 97 [sy_vr 0, none, none, sy_vi y3, none, none, none] [] σ (E43_97 y3 σ)) : ∀ (n : Nat) (x7 : Int32) (x8 : Int32) (σ : St), Ab sy_vi κ 43 [sy_vr 0, none, sy_vr c5, sy_vi x7, sy_vi x8, none, none] [] σ (m6_read_L43 c5 E43_88 E43_97 n x7 x8 σ) := by
  intro n
  induction n with
  | zero => intros; exact ab_none
  | succ n ih => exact fun x7 x8 σ => m6_read_L43b_ok hκ c5 h6 ih hE43_88 hE43_97 x7 x8 σ
def m6_read (a1 : Int32) (σ : St) : Option (Int32 × St) := sy_bd (m6_within a1 0 3 σ) (fun r2 σ1 => if r2 = 0 then (some ((-2), σ1)) else (sy_gd a1 4 (if (σ1 (53 + 2 * sy_ix a1) 0) = 0 then (sy_lt (σ1 5 10) (fun v4 => m6_read_L43 (53 + 2 * sy_ix a1) (fun y13 σ14 => sy_bd (m6_unlearn σ14) (fun _ σ15 => some (((σ15 5 10) - y13), σ15))) (fun y16 σ17 => sy_bd (m6_unlearn σ17) (fun _ σ18 => some (((σ18 5 10) - y16), σ18))) sy_FU v4 0 σ1)) else (sy_bd (m6_found 1 σ1) (fun r20 σ19 => some (r20, σ19))))))
set_option maxRecDepth 100000 in
set_option maxHeartbeats 4000000 in
theorem m6_read_ok (a1 : Int32) (σ : St) : Cok sy_vi yX6_read cX6_read 7 (some .int) 3 [.ref 0, .int a1] σ (m6_read a1 σ) := by
  refine cok_of (own := RX6) (by decide) rfl (fun ad => Nat.le_of_ble_eq_true rfl) (fun κ hκ => ?_)
  show Ab sy_vi κ 0 [sy_vr 0, sy_vi a1, none, none, none, none, none] [] σ (m6_read a1 σ)
  unfold m6_read
  refine ab_iload_n hκ dX6_read_0 rfl ?_
  refine ab_iconst (v := 0) hκ dX6_read_1 rfl ?_
  refine ab_iconst (v := 3) hκ dX6_read_2 rfl ?_
  refine ab_cSi (vs := [.int a1, .int 0, .int 3]) (st := []) hκ dX6_read_3 kl_RX6_89 ki_X6_within kv_X6_within (m6_within_ok a1 0 3 σ) rfl (by decide) (Nat.le_of_ble_eq_true rfl) rfl (fun r2 σ1 => ?_)
  refine ab_if_ne (tgt := 12) hκ dX6_read_6 rfl ?_ ?_
  · refine ab_aload_n hκ dX6_read_12 rfl ?_
    refine ab_getf (v := .ref 52) hκ (sy_o6 rfl) kf_RX6_73 rfl dX6_read_13 rfl ?_
    refine ab_iload_n hκ dX6_read_16 rfl ?_
    refine ab_aald hκ rfl dX6_read_17 (fun h3 => ?_)
    refine ab_astore_n (lv' := [sy_vr 0, sy_vi a1, sy_vr (53 + 2 * sy_ix a1), none, none, none, none]) hκ dX6_read_18 rfl (by decide) rfl ?_
    refine ab_aload_n hκ dX6_read_19 rfl ?_
    refine ab_getf (v := .int (σ1 (53 + 2 * sy_ix a1) 0)) hκ (sy_o4 (sy_sheet h3)) kf_RX6_145 rfl dX6_read_20 rfl ?_
    refine ab_if_eq (tgt := 32) hκ dX6_read_23 rfl ?_ ?_
    · refine ab_aload_n hκ dX6_read_32 rfl ?_
      refine ab_getf (v := .ref 5) hκ (sy_o6 rfl) kf_RX6_24 rfl dX6_read_33 rfl ?_
      refine ab_getf (v := .int (σ1 5 10)) hκ (sy_o0 (Or.inl rfl)) kf_RX6_142 rfl dX6_read_36 rfl ?_
      refine ab_lti (fun v4 => ?_)
      refine ab_istore_n (lv' := [sy_vr 0, sy_vi a1, sy_vr (53 + 2 * sy_ix a1), sy_vi v4, none, none, none]) hκ dX6_read_39 rfl (by decide) rfl ?_
      refine ab_iconst (v := 0) hκ dX6_read_40 rfl ?_
      refine ab_istore (lv' := [sy_vr 0, sy_vi a1, sy_vr (53 + 2 * sy_ix a1), sy_vi v4, sy_vi 0, none, none]) hκ dX6_read_41 (by decide) rfl ?_
      refine ab_fg (lv' := [sy_vr 0, none, sy_vr (53 + 2 * sy_ix a1), sy_vi v4, sy_vi 0, none, none]) [1] rfl ?_
      refine m6_read_L43_ok hκ (53 + 2 * sy_ix a1) (sy_sheet h3) ?_ ?_ _ _ _ _
      · intro y13 σ14
        refine ab_goto (tgt := 97) hκ dX6_read_88 rfl ?_
        refine ab_aload_n hκ dX6_read_97 rfl ?_
        refine ab_cVv (vs := []) (st := []) hκ dX6_read_98 kl_RX6_132 ki_X6_unlearn kv_X6_unlearn (sy_o6 rfl) rfl rfl (m6_unlearn_ok σ14) rfl (by decide) (Nat.le_of_ble_eq_true rfl) rfl (fun _ σ15 => ?_)
        refine ab_aload_n hκ dX6_read_101 rfl ?_
        refine ab_getf (v := .ref 5) hκ (sy_o6 rfl) kf_RX6_24 rfl dX6_read_102 rfl ?_
        refine ab_getf (v := .int (σ15 5 10)) hκ (sy_o0 (Or.inl rfl)) kf_RX6_142 rfl dX6_read_105 rfl ?_
        refine ab_iload_n hκ dX6_read_108 rfl ?_
        refine ab_isub hκ dX6_read_109 ?_
        exact ab_iret hκ dX6_read_110
      · intro y16 σ17
        refine ab_aload_n hκ dX6_read_97 rfl ?_
        refine ab_cVv (vs := []) (st := []) hκ dX6_read_98 kl_RX6_132 ki_X6_unlearn kv_X6_unlearn (sy_o6 rfl) rfl rfl (m6_unlearn_ok σ17) rfl (by decide) (Nat.le_of_ble_eq_true rfl) rfl (fun _ σ18 => ?_)
        refine ab_aload_n hκ dX6_read_101 rfl ?_
        refine ab_getf (v := .ref 5) hκ (sy_o6 rfl) kf_RX6_24 rfl dX6_read_102 rfl ?_
        refine ab_getf (v := .int (σ18 5 10)) hκ (sy_o0 (Or.inl rfl)) kf_RX6_142 rfl dX6_read_105 rfl ?_
        refine ab_iload_n hκ dX6_read_108 rfl ?_
        refine ab_isub hκ dX6_read_109 ?_
        exact ab_iret hκ dX6_read_110
    · refine ab_aload_n hκ dX6_read_26 rfl ?_
      refine ab_iconst (v := 1) hκ dX6_read_27 rfl ?_
      refine ab_cVi (vs := [.int 1]) (st := []) hκ dX6_read_28 kl_RX6_148 ki_X6_found kv_X6_found (sy_o6 rfl) rfl rfl (m6_found_ok 1 σ1) rfl (by decide) (Nat.le_of_ble_eq_true rfl) rfl (fun r20 σ19 => ?_)
      exact ab_iret hκ dX6_read_31
  · refine ab_bipush (v := (-2)) hκ dX6_read_9 rfl ?_
    exact ab_iret hκ dX6_read_11
-- BreathBand$Run.clear(LBreathBand$Band;)V, depth 1
def m3_clear (this : Nat) (a1 : Nat) (σ : St) : Option (Unit × St) := sy_bd (mj7_fill_53178 (this + 4) 16 0 σ) (fun _ σ1 => sy_bd (mj7_fill_53178 (this + 5) 11 0 σ1) (fun _ σ2 => sy_bd (mj7_fill_53178 (this + 6) 11 0 σ2) (fun _ σ3 => sy_bd (mj7_fill_53178 (this + 7) 11 0 σ3) (fun _ σ4 => sy_bd (mj7_fill_53178 (this + 8) 24 0 σ4) (fun _ σ5 => sy_lt (sy_sf σ5 this 7 0) (fun σ6 => sy_lt (sy_sf σ6 this 8 0) (fun σ7 => sy_lt (sy_sf σ7 this 9 0) (fun σ8 => sy_lt (sy_sf σ8 this 10 0) (fun σ9 => sy_lt (sy_sf σ9 this 11 0) (fun σ10 => sy_lt (sy_sf σ10 this 13 0) (fun σ11 => sy_lt (sy_sf σ11 this 14 0) (fun σ12 => sy_lt (sy_sf σ12 this 15 0) (fun σ13 => sy_lt (sy_sf σ13 this 16 (σ13 a1 9)) (fun σ14 => some ((), σ14)))))))))))))))
set_option maxRecDepth 100000 in
set_option maxHeartbeats 4000000 in
theorem m3_clear_ok (this : Nat) (a1 : Nat) (hthis : sy_is3 this) (ha1 : sy_is0 a1) (σ : St) : Cok sy_cu yX3_clear cX3_clear 2 none 1 [.ref this, .ref a1] σ (m3_clear this a1 σ) := by
  refine cok_of (own := RX3) (by decide) rfl (fun ad => Nat.le_of_ble_eq_true rfl) (fun κ hκ => ?_)
  show Ab sy_cu κ 0 [sy_vr this, sy_vr a1] [] σ (m3_clear this a1 σ)
  unfold m3_clear
  refine ab_aload_n hκ dX3_clear_0 rfl ?_
  refine ab_getf (v := .ref (this + 4)) hκ (sy_o3 hthis) kf_RX3_21 rfl dX3_clear_1 rfl ?_
  refine ab_iconst (v := 0) hκ dX3_clear_4 rfl ?_
  refine ab_cSv (vs := [.ref (this + 4), .int 0]) (st := []) hκ dX3_clear_5 kl_RX3_79 ki_J7_fill_53178 kv_J7_fill_53178 (mj7_fill_53178_ok (this + 4) 16 0 (sy_a3_3 hthis) σ) rfl (by decide) (Nat.le_of_ble_eq_true rfl) rfl (fun _ σ1 => ?_)
  refine ab_aload_n hκ dX3_clear_8 rfl ?_
  refine ab_getf (v := .ref (this + 5)) hκ (sy_o3 hthis) kf_RX3_24 rfl dX3_clear_9 rfl ?_
  refine ab_iconst (v := 0) hκ dX3_clear_12 rfl ?_
  refine ab_cSv (vs := [.ref (this + 5), .int 0]) (st := []) hκ dX3_clear_13 kl_RX3_79 ki_J7_fill_53178 kv_J7_fill_53178 (mj7_fill_53178_ok (this + 5) 11 0 (sy_a3_4 hthis) σ1) rfl (by decide) (Nat.le_of_ble_eq_true rfl) rfl (fun _ σ2 => ?_)
  refine ab_aload_n hκ dX3_clear_16 rfl ?_
  refine ab_getf (v := .ref (this + 6)) hκ (sy_o3 hthis) kf_RX3_27 rfl dX3_clear_17 rfl ?_
  refine ab_iconst (v := 0) hκ dX3_clear_20 rfl ?_
  refine ab_cSv (vs := [.ref (this + 6), .int 0]) (st := []) hκ dX3_clear_21 kl_RX3_79 ki_J7_fill_53178 kv_J7_fill_53178 (mj7_fill_53178_ok (this + 6) 11 0 (sy_a3_5 hthis) σ2) rfl (by decide) (Nat.le_of_ble_eq_true rfl) rfl (fun _ σ3 => ?_)
  refine ab_aload_n hκ dX3_clear_24 rfl ?_
  refine ab_getf (v := .ref (this + 7)) hκ (sy_o3 hthis) kf_RX3_30 rfl dX3_clear_25 rfl ?_
  refine ab_iconst (v := 0) hκ dX3_clear_28 rfl ?_
  refine ab_cSv (vs := [.ref (this + 7), .int 0]) (st := []) hκ dX3_clear_29 kl_RX3_79 ki_J7_fill_53178 kv_J7_fill_53178 (mj7_fill_53178_ok (this + 7) 11 0 (sy_a3_6 hthis) σ3) rfl (by decide) (Nat.le_of_ble_eq_true rfl) rfl (fun _ σ4 => ?_)
  refine ab_aload_n hκ dX3_clear_32 rfl ?_
  refine ab_getf (v := .ref (this + 8)) hκ (sy_o3 hthis) kf_RX3_33 rfl dX3_clear_33 rfl ?_
  refine ab_iconst (v := 0) hκ dX3_clear_36 rfl ?_
  refine ab_cSv (vs := [.ref (this + 8), .int 0]) (st := []) hκ dX3_clear_37 kl_RX3_79 ki_J7_fill_53178 kv_J7_fill_53178 (mj7_fill_53178_ok (this + 8) 24 0 (sy_a3_12 hthis) σ4) rfl (by decide) (Nat.le_of_ble_eq_true rfl) rfl (fun _ σ5 => ?_)
  refine ab_aload_n hκ dX3_clear_40 rfl ?_
  refine ab_iconst (v := 0) hκ dX3_clear_41 rfl ?_
  refine ab_putf hκ (sy_o3 hthis) kp_RX3_85 rfl dX3_clear_42 ?_
  refine ab_lts (fun σ6 => ?_)
  refine ab_aload_n hκ dX3_clear_45 rfl ?_
  refine ab_iconst (v := 0) hκ dX3_clear_46 rfl ?_
  refine ab_putf hκ (sy_o3 hthis) kp_RX3_88 rfl dX3_clear_47 ?_
  refine ab_lts (fun σ7 => ?_)
  refine ab_aload_n hκ dX3_clear_50 rfl ?_
  refine ab_iconst (v := 0) hκ dX3_clear_51 rfl ?_
  refine ab_putf hκ (sy_o3 hthis) kp_RX3_91 rfl dX3_clear_52 ?_
  refine ab_lts (fun σ8 => ?_)
  refine ab_aload_n hκ dX3_clear_55 rfl ?_
  refine ab_iconst (v := 0) hκ dX3_clear_56 rfl ?_
  refine ab_putf hκ (sy_o3 hthis) kp_RX3_94 rfl dX3_clear_57 ?_
  refine ab_lts (fun σ9 => ?_)
  refine ab_aload_n hκ dX3_clear_60 rfl ?_
  refine ab_iconst (v := 0) hκ dX3_clear_61 rfl ?_
  refine ab_putf hκ (sy_o3 hthis) kp_RX3_97 rfl dX3_clear_62 ?_
  refine ab_lts (fun σ10 => ?_)
  refine ab_aload_n hκ dX3_clear_65 rfl ?_
  refine ab_iconst (v := 0) hκ dX3_clear_66 rfl ?_
  refine ab_putf hκ (sy_o3 hthis) kp_RX3_66 rfl dX3_clear_67 ?_
  refine ab_lts (fun σ11 => ?_)
  refine ab_aload_n hκ dX3_clear_70 rfl ?_
  refine ab_iconst (v := 0) hκ dX3_clear_71 rfl ?_
  refine ab_putf hκ (sy_o3 hthis) kp_RX3_63 rfl dX3_clear_72 ?_
  refine ab_lts (fun σ12 => ?_)
  refine ab_aload_n hκ dX3_clear_75 rfl ?_
  refine ab_iconst (v := 0) hκ dX3_clear_76 rfl ?_
  refine ab_putf hκ (sy_o3 hthis) kp_RX3_73 rfl dX3_clear_77 ?_
  refine ab_lts (fun σ13 => ?_)
  refine ab_aload_n hκ dX3_clear_80 rfl ?_
  refine ab_aload_n hκ dX3_clear_81 rfl ?_
  refine ab_getf (v := .int (σ13 a1 9)) hκ (sy_o0 ha1) kf_RX3_100 rfl dX3_clear_82 rfl ?_
  refine ab_putf hκ (sy_o3 hthis) kp_RX3_76 rfl dX3_clear_85 ?_
  refine ab_lts (fun σ14 => ?_)
  exact ab_vret hκ dX3_clear_88
-- BreathBand$Run.gather(II)V, depth 0
def m3_gather (this : Nat) (a1 : Int32) (a2 : Int32) (σ : St) : Option (Unit × St) := if a1 = 0 then (sy_gd a2 24 (sy_gd a2 24 (sy_lt (sy_sf σ (this + 8) (sy_ix a2) ((σ (this + 8) (sy_ix a2)) + 1)) (fun σ3 => some ((), σ3))))) else (if a1 = 1 then (sy_lt (sy_sf σ this 13 ((σ this 13) ||| (1 <<< (a2 &&& 31)))) (fun σ2 => some ((), σ2))) else (sy_lt (sy_sf σ this 14 ((σ this 14) ||| (1 <<< (a2 &&& 31)))) (fun σ1 => some ((), σ1))))
set_option maxRecDepth 100000 in
set_option maxHeartbeats 4000000 in
theorem m3_gather_ok (this : Nat) (a1 : Int32) (a2 : Int32) (hthis : sy_is3 this) (σ : St) : Cok sy_cu yX3_gather cX3_gather 3 none 0 [.ref this, .int a1, .int a2] σ (m3_gather this a1 a2 σ) := by
  refine cok_of (own := RX3) (by decide) rfl (fun ad => Nat.le_of_ble_eq_true rfl) (fun κ hκ => ?_)
  show Ab sy_cu κ 0 [sy_vr this, sy_vi a1, sy_vi a2] [] σ (m3_gather this a1 a2 σ)
  unfold m3_gather
  refine ab_iload_n hκ dX3_gather_0 rfl ?_
  refine ab_if_ne (tgt := 17) hκ dX3_gather_1 rfl ?_ ?_
  · refine ab_iload_n hκ dX3_gather_17 rfl ?_
    refine ab_iconst (v := 1) hκ dX3_gather_18 rfl ?_
    refine ab_icmp_ne (tgt := 37) hκ dX3_gather_19 rfl ?_ ?_
    · refine ab_aload_n hκ dX3_gather_37 rfl ?_
      refine ab_dupa hκ dX3_gather_38 ?_
      refine ab_getf (v := .int (σ this 14)) hκ (sy_o3 hthis) kf_RX3_63 rfl dX3_gather_39 rfl ?_
      refine ab_iconst (v := 1) hκ dX3_gather_42 rfl ?_
      refine ab_iload_n hκ dX3_gather_43 rfl ?_
      refine ab_ishl hκ dX3_gather_44 ?_
      refine ab_ior hκ dX3_gather_45 ?_
      refine ab_putf hκ (sy_o3 hthis) kp_RX3_63 rfl dX3_gather_46 ?_
      refine ab_lts (fun σ1 => ?_)
      exact ab_vret hκ dX3_gather_49
    · refine ab_aload_n hκ dX3_gather_22 rfl ?_
      refine ab_dupa hκ dX3_gather_23 ?_
      refine ab_getf (v := .int (σ this 13)) hκ (sy_o3 hthis) kf_RX3_66 rfl dX3_gather_24 rfl ?_
      refine ab_iconst (v := 1) hκ dX3_gather_27 rfl ?_
      refine ab_iload_n hκ dX3_gather_28 rfl ?_
      refine ab_ishl hκ dX3_gather_29 ?_
      refine ab_ior hκ dX3_gather_30 ?_
      refine ab_putf hκ (sy_o3 hthis) kp_RX3_66 rfl dX3_gather_31 ?_
      refine ab_lts (fun σ2 => ?_)
      refine ab_goto (tgt := 49) hκ dX3_gather_34 rfl ?_
      exact ab_vret hκ dX3_gather_49
  · refine ab_aload_n hκ dX3_gather_4 rfl ?_
    refine ab_getf (v := .ref (this + 8)) hκ (sy_o3 hthis) kf_RX3_33 rfl dX3_gather_5 rfl ?_
    refine ab_iload_n hκ dX3_gather_8 rfl ?_
    refine ab_dup2 hκ dX3_gather_9 ?_
    refine ab_iald hκ (sy_a3_12 hthis) dX3_gather_10 ?_
    refine ab_iconst (v := 1) hκ dX3_gather_11 rfl ?_
    refine ab_iadd hκ dX3_gather_12 ?_
    refine ab_iast hκ (sy_a3_12 hthis) dX3_gather_13 ?_
    refine ab_lts (fun σ3 => ?_)
    refine ab_goto (tgt := 49) hκ dX3_gather_14 rfl ?_
    exact ab_vret hκ dX3_gather_49
-- BreathBand$Run.gatherEvents(LBreathBand$Band;)V, depth 1
def m3_gatherEvents_L2b (c1 : Nat) (c3 : Nat) (K2 : Int32 → St → Option (Unit × St)) (E2_43 : St → Option (Unit × St)) (x5 : Int32) (σ : St) : Option (Unit × St) := if (σ c3 10) ≤ x5 then (E2_43  σ) else (if (((σ c3 13) >>> (x5 &&& 31)) &&& 1) = 0 then (sy_gd x5 8 (sy_gd x5 8 (sy_bd (m3_gather c1 (σ (c3 + 8) (sy_ix x5)) (σ (c3 + 9) (sy_ix x5)) σ) (fun _ σ6 => K2 (x5 + 1) σ6)))) else (K2 (x5 + 1) σ))
def m3_gatherEvents_L2 (c1 : Nat) (c3 : Nat) (E2_43 : St → Option (Unit × St)) : Nat → Int32 → St → Option (Unit × St)
  | 0 => fun _ _ => none
  | n + 1 => m3_gatherEvents_L2b c1 c3 (m3_gatherEvents_L2 c1 c3 E2_43 n) E2_43
set_option maxRecDepth 100000 in
set_option maxHeartbeats 4000000 in
theorem m3_gatherEvents_L2b_ok {κ : Kx} (hκ : Gd κ cX3_gatherEvents 3 RX3 none 1) (c1 : Nat) (c3 : Nat) (h2 : sy_is3 c1) (h4 : sy_is0 c3) {K2 : Int32 → St → Option (Unit × St)} (hK2 : ∀ (x5 : Int32) (σ : St), Ab sy_cu κ 2 [sy_vr c1, sy_vr c3, sy_vi x5] [] σ (K2 x5 σ)) {E2_43 : St → Option (Unit × St)} (hE2_43 : ∀ (σ : St), Ab sy_cu κ 43 [sy_vr c1, sy_vr c3, none] [] σ (E2_43  σ)) (x5 : Int32) (σ : St) : Ab sy_cu κ 2 [sy_vr c1, sy_vr c3, sy_vi x5] [] σ (m3_gatherEvents_L2b c1 c3 K2 E2_43 x5 σ) := by
  unfold m3_gatherEvents_L2b
  refine ab_iload_n hκ dX3_gatherEvents_2 rfl ?_
  refine ab_aload_n hκ dX3_gatherEvents_3 rfl ?_
  refine ab_getf (v := .int (σ c3 10)) hκ (sy_o0 h4) kf_RX3_103 rfl dX3_gatherEvents_4 rfl ?_
  refine ab_icmp_ge (tgt := 43) hκ dX3_gatherEvents_7 rfl ?_ ?_
  · refine ab_fg (lv' := [sy_vr c1, sy_vr c3, none]) [2] rfl ?_
    exact hE2_43  σ
  · refine ab_aload_n hκ dX3_gatherEvents_10 rfl ?_
    refine ab_getf (v := .int (σ c3 13)) hκ (sy_o0 h4) kf_RX3_106 rfl dX3_gatherEvents_11 rfl ?_
    refine ab_iload_n hκ dX3_gatherEvents_14 rfl ?_
    refine ab_ishr hκ dX3_gatherEvents_15 ?_
    refine ab_iconst (v := 1) hκ dX3_gatherEvents_16 rfl ?_
    refine ab_iand hκ dX3_gatherEvents_17 ?_
    refine ab_if_ne (tgt := 37) hκ dX3_gatherEvents_18 rfl ?_ ?_
    · refine ab_iinc (v := (x5 + 1)) (lv' := [sy_vr c1, sy_vr c3, sy_vi (x5 + 1)]) hκ dX3_gatherEvents_37 rfl rfl (by decide) rfl ?_
      refine ab_goto (tgt := 2) hκ dX3_gatherEvents_40 rfl ?_
      exact hK2 (x5 + 1) σ
    · refine ab_aload_n hκ dX3_gatherEvents_21 rfl ?_
      refine ab_aload_n hκ dX3_gatherEvents_22 rfl ?_
      refine ab_getf (v := .ref (c3 + 8)) hκ (sy_o0 h4) kf_RX3_109 rfl dX3_gatherEvents_23 rfl ?_
      refine ab_iload_n hκ dX3_gatherEvents_26 rfl ?_
      refine ab_iald hκ (sy_a0_11 h4) dX3_gatherEvents_27 ?_
      refine ab_aload_n hκ dX3_gatherEvents_28 rfl ?_
      refine ab_getf (v := .ref (c3 + 9)) hκ (sy_o0 h4) kf_RX3_112 rfl dX3_gatherEvents_29 rfl ?_
      refine ab_iload_n hκ dX3_gatherEvents_32 rfl ?_
      refine ab_iald hκ (sy_a0_12 h4) dX3_gatherEvents_33 ?_
      refine ab_cVv (vs := [.int (σ (c3 + 8) (sy_ix x5)), .int (σ (c3 + 9) (sy_ix x5))]) (st := []) hκ dX3_gatherEvents_34 kl_RX3_115 ki_X3_gather kv_X3_gather (sy_o3 h2) rfl rfl (m3_gather_ok c1 (σ (c3 + 8) (sy_ix x5)) (σ (c3 + 9) (sy_ix x5)) h2 σ) rfl (by decide) (Nat.le_of_ble_eq_true rfl) rfl (fun _ σ6 => ?_)
      refine ab_iinc (v := (x5 + 1)) (lv' := [sy_vr c1, sy_vr c3, sy_vi (x5 + 1)]) hκ dX3_gatherEvents_37 rfl rfl (by decide) rfl ?_
      refine ab_goto (tgt := 2) hκ dX3_gatherEvents_40 rfl ?_
      exact hK2 (x5 + 1) σ6
theorem m3_gatherEvents_L2_ok {κ : Kx} (hκ : Gd κ cX3_gatherEvents 3 RX3 none 1) (c1 : Nat) (c3 : Nat) (h2 : sy_is3 c1) (h4 : sy_is0 c3) {E2_43 : St → Option (Unit × St)} (hE2_43 : ∀ (σ : St), Ab sy_cu κ 43 [sy_vr c1, sy_vr c3, none] [] σ (E2_43  σ)) : ∀ (n : Nat) (x5 : Int32) (σ : St), Ab sy_cu κ 2 [sy_vr c1, sy_vr c3, sy_vi x5] [] σ (m3_gatherEvents_L2 c1 c3 E2_43 n x5 σ) := by
  intro n
  induction n with
  | zero => intros; exact ab_none
  | succ n ih => exact fun x5 σ => m3_gatherEvents_L2b_ok hκ c1 c3 h2 h4 ih hE2_43 x5 σ
def m3_gatherEvents (this : Nat) (a1 : Nat) (σ : St) : Option (Unit × St) := m3_gatherEvents_L2 this a1 (fun  σ7 => if (σ7 a1 14) = (-1) then (some ((), σ7)) else (sy_bd (m3_gather this 2 (σ7 a1 14) σ7) (fun _ σ8 => some ((), σ8)))) sy_FU 0 σ
set_option maxRecDepth 100000 in
set_option maxHeartbeats 4000000 in
theorem m3_gatherEvents_ok (this : Nat) (a1 : Nat) (hthis : sy_is3 this) (ha1 : sy_is0 a1) (σ : St) : Cok sy_cu yX3_gatherEvents cX3_gatherEvents 3 none 1 [.ref this, .ref a1] σ (m3_gatherEvents this a1 σ) := by
  refine cok_of (own := RX3) (by decide) rfl (fun ad => Nat.le_of_ble_eq_true rfl) (fun κ hκ => ?_)
  show Ab sy_cu κ 0 [sy_vr this, sy_vr a1, none] [] σ (m3_gatherEvents this a1 σ)
  unfold m3_gatherEvents
  refine ab_iconst (v := 0) hκ dX3_gatherEvents_0 rfl ?_
  refine ab_istore_n (lv' := [sy_vr this, sy_vr a1, sy_vi 0]) hκ dX3_gatherEvents_1 rfl (by decide) rfl ?_
  refine m3_gatherEvents_L2_ok hκ this a1 hthis ha1 ?_ _ _ _
  · intro  σ7
    refine ab_aload_n hκ dX3_gatherEvents_43 rfl ?_
    refine ab_getf (v := .int (σ7 a1 14)) hκ (sy_o0 ha1) kf_RX3_119 rfl dX3_gatherEvents_44 rfl ?_
    refine ab_iconst (v := (-1)) hκ dX3_gatherEvents_47 rfl ?_
    refine ab_icmp_eq (tgt := 60) hκ dX3_gatherEvents_48 rfl ?_ ?_
    · exact ab_vret hκ dX3_gatherEvents_60
    · refine ab_aload_n hκ dX3_gatherEvents_51 rfl ?_
      refine ab_iconst (v := 2) hκ dX3_gatherEvents_52 rfl ?_
      refine ab_aload_n hκ dX3_gatherEvents_53 rfl ?_
      refine ab_getf (v := .int (σ7 a1 14)) hκ (sy_o0 ha1) kf_RX3_119 rfl dX3_gatherEvents_54 rfl ?_
      refine ab_cVv (vs := [.int 2, .int (σ7 a1 14)]) (st := []) hκ dX3_gatherEvents_57 kl_RX3_115 ki_X3_gather kv_X3_gather (sy_o3 hthis) rfl rfl (m3_gather_ok this 2 (σ7 a1 14) hthis σ7) rfl (by decide) (Nat.le_of_ble_eq_true rfl) rfl (fun _ σ8 => ?_)
      exact ab_vret hκ dX3_gatherEvents_60
-- BreathBand$Run.steal(I)V, depth 1
def m3_steal (this : Nat) (a1 : Int32) (σ : St) : Option (Unit × St) := sy_lt (sy_min (σ this 16) (3 * a1)) (fun v1 => sy_lt (sy_sf σ this 16 ((σ this 16) - v1)) (fun σ2 => sy_lt (sy_sf σ2 this 11 ((σ2 this 11) + v1)) (fun σ3 => some ((), σ3))))
set_option maxRecDepth 100000 in
set_option maxHeartbeats 4000000 in
theorem m3_steal_ok (this : Nat) (a1 : Int32) (hthis : sy_is3 this) (σ : St) : Cok sy_cu yX3_steal cX3_steal 3 none 1 [.ref this, .int a1] σ (m3_steal this a1 σ) := by
  refine cok_of (own := RX3) (by decide) rfl (fun ad => Nat.le_of_ble_eq_true rfl) (fun κ hκ => ?_)
  show Ab sy_cu κ 0 [sy_vr this, sy_vi a1, none] [] σ (m3_steal this a1 σ)
  unfold m3_steal
  refine ab_aload_n hκ dX3_steal_0 rfl ?_
  refine ab_getf (v := .int (σ this 16)) hκ (sy_o3 hthis) kf_RX3_76 rfl dX3_steal_1 rfl ?_
  refine ab_iconst (v := 3) hκ dX3_steal_4 rfl ?_
  refine ab_iload_n hκ dX3_steal_5 rfl ?_
  refine ab_imul hκ dX3_steal_6 ?_
  refine ab_mmin hκ dX3_steal_7 kl_RX3_122 (by decide) (Nat.le_of_ble_eq_true rfl) ?_
  refine ab_lti (fun v1 => ?_)
  refine ab_istore_n (lv' := [sy_vr this, sy_vi a1, sy_vi v1]) hκ dX3_steal_10 rfl (by decide) rfl ?_
  refine ab_aload_n hκ dX3_steal_11 rfl ?_
  refine ab_dupa hκ dX3_steal_12 ?_
  refine ab_getf (v := .int (σ this 16)) hκ (sy_o3 hthis) kf_RX3_76 rfl dX3_steal_13 rfl ?_
  refine ab_iload_n hκ dX3_steal_16 rfl ?_
  refine ab_isub hκ dX3_steal_17 ?_
  refine ab_putf hκ (sy_o3 hthis) kp_RX3_76 rfl dX3_steal_18 ?_
  refine ab_lts (fun σ2 => ?_)
  refine ab_aload_n hκ dX3_steal_21 rfl ?_
  refine ab_dupa hκ dX3_steal_22 ?_
  refine ab_getf (v := .int (σ2 this 11)) hκ (sy_o3 hthis) kf_RX3_97 rfl dX3_steal_23 rfl ?_
  refine ab_iload_n hκ dX3_steal_26 rfl ?_
  refine ab_iadd hκ dX3_steal_27 ?_
  refine ab_putf hκ (sy_o3 hthis) kp_RX3_97 rfl dX3_steal_28 ?_
  refine ab_lts (fun σ3 => ?_)
  exact ab_vret hκ dX3_steal_31
-- BreathBand$Run.soundOne(LBreathBand$Band;II)V, depth 1
def m3_soundOne_J134 (c20 : Nat) (x22 : Int32) (x23 : Int32) (x24 : Int32) (x25 : Int32) (x26 : Int32) (c27 : Nat)  (σ : St) : Option (Unit × St) := sy_gd x26 16 (sy_lt (sy_sf σ c27 (sy_ix x26) x25) (fun σ29 => sy_gd x23 11 (sy_gd x23 11 (sy_lt (sy_sf σ29 (c20 + 5) (sy_ix x23) ((σ29 (c20 + 5) (sy_ix x23)) + 1)) (fun σ30 => sy_gd x23 11 (sy_gd x23 11 (sy_lt (sy_sf σ30 (c20 + 6) (sy_ix x23) ((σ30 (c20 + 6) (sy_ix x23)) + x24)) (fun σ31 => sy_lt (sy_sf σ31 c20 7 ((σ31 c20 7) + 1)) (fun σ32 => sy_lt (sy_sf σ32 c20 8 ((σ32 c20 8) ||| (1 <<< (x22 &&& 31)))) (fun σ33 => some ((), σ33)))))))))))
set_option maxRecDepth 100000 in
set_option maxHeartbeats 4000000 in
theorem m3_soundOne_J134_ok {κ : Kx} (hκ : Gd κ cX3_soundOne 9 RX3 none 1) (c20 : Nat) (x22 : Int32) (x23 : Int32) (x24 : Int32) (x25 : Int32) (x26 : Int32) (c27 : Nat) (h21 : sy_is3 c20) (h28 : sy_shp[c27]? = some (.inl 16)) (σ : St) : Ab sy_cu κ 134 [sy_vr c20, none, sy_vi x22, sy_vi x23, none, none, none, none, sy_vi x24] [.int x25, .int x26, .ref c27] σ (m3_soundOne_J134 c20 x22 x23 x24 x25 x26 c27 σ) := by
  unfold m3_soundOne_J134
  refine ab_iast hκ h28 dX3_soundOne_134 ?_
  refine ab_lts (fun σ29 => ?_)
  refine ab_aload_n hκ dX3_soundOne_135 rfl ?_
  refine ab_getf (v := .ref (c20 + 5)) hκ (sy_o3 h21) kf_RX3_24 rfl dX3_soundOne_136 rfl ?_
  refine ab_iload_n hκ dX3_soundOne_139 rfl ?_
  refine ab_dup2 hκ dX3_soundOne_140 ?_
  refine ab_iald hκ (sy_a3_4 h21) dX3_soundOne_141 ?_
  refine ab_iconst (v := 1) hκ dX3_soundOne_142 rfl ?_
  refine ab_iadd hκ dX3_soundOne_143 ?_
  refine ab_iast hκ (sy_a3_4 h21) dX3_soundOne_144 ?_
  refine ab_lts (fun σ30 => ?_)
  refine ab_aload_n hκ dX3_soundOne_145 rfl ?_
  refine ab_getf (v := .ref (c20 + 6)) hκ (sy_o3 h21) kf_RX3_27 rfl dX3_soundOne_146 rfl ?_
  refine ab_iload_n hκ dX3_soundOne_149 rfl ?_
  refine ab_dup2 hκ dX3_soundOne_150 ?_
  refine ab_iald hκ (sy_a3_5 h21) dX3_soundOne_151 ?_
  refine ab_iload hκ dX3_soundOne_152 rfl ?_
  refine ab_iadd hκ dX3_soundOne_154 ?_
  refine ab_iast hκ (sy_a3_5 h21) dX3_soundOne_155 ?_
  refine ab_lts (fun σ31 => ?_)
  refine ab_aload_n hκ dX3_soundOne_156 rfl ?_
  refine ab_dupa hκ dX3_soundOne_157 ?_
  refine ab_getf (v := .int (σ31 c20 7)) hκ (sy_o3 h21) kf_RX3_85 rfl dX3_soundOne_158 rfl ?_
  refine ab_iconst (v := 1) hκ dX3_soundOne_161 rfl ?_
  refine ab_iadd hκ dX3_soundOne_162 ?_
  refine ab_putf hκ (sy_o3 h21) kp_RX3_85 rfl dX3_soundOne_163 ?_
  refine ab_lts (fun σ32 => ?_)
  refine ab_aload_n hκ dX3_soundOne_166 rfl ?_
  refine ab_dupa hκ dX3_soundOne_167 ?_
  refine ab_getf (v := .int (σ32 c20 8)) hκ (sy_o3 h21) kf_RX3_88 rfl dX3_soundOne_168 rfl ?_
  refine ab_iconst (v := 1) hκ dX3_soundOne_171 rfl ?_
  refine ab_iload_n hκ dX3_soundOne_172 rfl ?_
  refine ab_ishl hκ dX3_soundOne_173 ?_
  refine ab_ior hκ dX3_soundOne_174 ?_
  refine ab_putf hκ (sy_o3 h21) kp_RX3_88 rfl dX3_soundOne_175 ?_
  refine ab_lts (fun σ33 => ?_)
  exact ab_vret hκ dX3_soundOne_178
def m3_soundOne_J66 (c10 : Nat) (x12 : Int32) (x13 : Int32) (x14 : Int32) (x15 : Int32) (x16 : Int32)  (σ : St) : Option (Unit × St) := if x15 < x14 then (sy_lt (sy_sf σ c10 9 ((σ c10 9) + 1)) (fun σ17 => some ((), σ17))) else (if x16 ≤ (σ c10 16) then (sy_dv 2 (sy_lt (x16 - (x16 / 2)) (fun v18 => sy_lt (sy_sf σ c10 16 ((σ c10 16) - v18)) (fun σ19 => if 10 ≤ (σ19 c10 16) then (m3_soundOne_J134 c10 x12 x13 v18 2 x12 (c10 + 4) σ19) else (m3_soundOne_J134 c10 x12 x13 v18 1 x12 (c10 + 4) σ19))))) else (sy_lt (sy_sf σ c10 9 ((σ c10 9) + 1)) (fun σ34 => some ((), σ34))))
set_option maxRecDepth 100000 in
set_option maxHeartbeats 4000000 in
theorem m3_soundOne_J66_ok {κ : Kx} (hκ : Gd κ cX3_soundOne 9 RX3 none 1) (c10 : Nat) (x12 : Int32) (x13 : Int32) (x14 : Int32) (x15 : Int32) (x16 : Int32) (h11 : sy_is3 c10) (σ : St) : Ab sy_cu κ 66 [sy_vr c10, none, sy_vi x12, sy_vi x13, none, sy_vi x14, sy_vi x15, none, none] [.int x16] σ (m3_soundOne_J66 c10 x12 x13 x14 x15 x16 σ) := by
  unfold m3_soundOne_J66
  refine ab_istore (lv' := [sy_vr c10, none, sy_vi x12, sy_vi x13, none, sy_vi x14, sy_vi x15, sy_vi x16, none]) hκ dX3_soundOne_66 (by decide) rfl ?_
  refine ab_iload hκ dX3_soundOne_68 rfl ?_
  refine ab_iload hκ dX3_soundOne_70 rfl ?_
  refine ab_icmp_gt (tgt := 84) hκ dX3_soundOne_72 rfl ?_ ?_
  · refine ab_aload_n hκ dX3_soundOne_84 rfl ?_
    refine ab_dupa hκ dX3_soundOne_85 ?_
    refine ab_getf (v := .int (σ c10 9)) hκ (sy_o3 h11) kf_RX3_91 rfl dX3_soundOne_86 rfl ?_
    refine ab_iconst (v := 1) hκ dX3_soundOne_89 rfl ?_
    refine ab_iadd hκ dX3_soundOne_90 ?_
    refine ab_putf hκ (sy_o3 h11) kp_RX3_91 rfl dX3_soundOne_91 ?_
    refine ab_lts (fun σ17 => ?_)
    exact ab_vret hκ dX3_soundOne_94
  · refine ab_aload_n hκ dX3_soundOne_75 rfl ?_
    refine ab_getf (v := .int (σ c10 16)) hκ (sy_o3 h11) kf_RX3_76 rfl dX3_soundOne_76 rfl ?_
    refine ab_iload hκ dX3_soundOne_79 rfl ?_
    refine ab_icmp_ge (tgt := 95) hκ dX3_soundOne_81 rfl ?_ ?_
    · refine ab_iload hκ dX3_soundOne_95 rfl ?_
      refine ab_iload hκ dX3_soundOne_97 rfl ?_
      refine ab_iconst (v := 2) hκ dX3_soundOne_99 rfl ?_
      refine ab_idiv hκ dX3_soundOne_100 ?_
      refine ab_isub hκ dX3_soundOne_101 ?_
      refine ab_lti (fun v18 => ?_)
      refine ab_istore (lv' := [sy_vr c10, none, sy_vi x12, sy_vi x13, none, sy_vi x14, sy_vi x15, sy_vi x16, sy_vi v18]) hκ dX3_soundOne_102 (by decide) rfl ?_
      refine ab_aload_n hκ dX3_soundOne_104 rfl ?_
      refine ab_dupa hκ dX3_soundOne_105 ?_
      refine ab_getf (v := .int (σ c10 16)) hκ (sy_o3 h11) kf_RX3_76 rfl dX3_soundOne_106 rfl ?_
      refine ab_iload hκ dX3_soundOne_109 rfl ?_
      refine ab_isub hκ dX3_soundOne_111 ?_
      refine ab_putf hκ (sy_o3 h11) kp_RX3_76 rfl dX3_soundOne_112 ?_
      refine ab_lts (fun σ19 => ?_)
      refine ab_aload_n hκ dX3_soundOne_115 rfl ?_
      refine ab_getf (v := .ref (c10 + 4)) hκ (sy_o3 h11) kf_RX3_21 rfl dX3_soundOne_116 rfl ?_
      refine ab_iload_n hκ dX3_soundOne_119 rfl ?_
      refine ab_aload_n hκ dX3_soundOne_120 rfl ?_
      refine ab_getf (v := .int (σ19 c10 16)) hκ (sy_o3 h11) kf_RX3_76 rfl dX3_soundOne_121 rfl ?_
      refine ab_bipush (v := 10) hκ dX3_soundOne_124 rfl ?_
      refine ab_icmp_ge (tgt := 133) hκ dX3_soundOne_126 rfl ?_ ?_
      · refine ab_iconst (v := 2) hκ dX3_soundOne_133 rfl ?_
        refine ab_fg (lv' := [sy_vr c10, none, sy_vi x12, sy_vi x13, none, none, none, none, sy_vi v18]) [5, 6, 7] rfl ?_
        exact m3_soundOne_J134_ok hκ c10 x12 x13 v18 2 x12 (c10 + 4) h11 (sy_a3_3 h11) σ19
      · refine ab_iconst (v := 1) hκ dX3_soundOne_129 rfl ?_
        refine ab_goto (tgt := 134) hκ dX3_soundOne_130 rfl ?_
        refine ab_fg (lv' := [sy_vr c10, none, sy_vi x12, sy_vi x13, none, none, none, none, sy_vi v18]) [5, 6, 7] rfl ?_
        exact m3_soundOne_J134_ok hκ c10 x12 x13 v18 1 x12 (c10 + 4) h11 (sy_a3_3 h11) σ19
    · refine ab_aload_n hκ dX3_soundOne_84 rfl ?_
      refine ab_dupa hκ dX3_soundOne_85 ?_
      refine ab_getf (v := .int (σ c10 9)) hκ (sy_o3 h11) kf_RX3_91 rfl dX3_soundOne_86 rfl ?_
      refine ab_iconst (v := 1) hκ dX3_soundOne_89 rfl ?_
      refine ab_iadd hκ dX3_soundOne_90 ?_
      refine ab_putf hκ (sy_o3 h11) kp_RX3_91 rfl dX3_soundOne_91 ?_
      refine ab_lts (fun σ34 => ?_)
      exact ab_vret hκ dX3_soundOne_94
def m3_soundOne_J44 (c3 : Nat) (x5 : Int32) (x6 : Int32) (x7 : Int32) (x8 : Int32) (x9 : Int32)  (σ : St) : Option (Unit × St) := if x7 = 0 then (m3_soundOne_J66 c3 x5 x6 x8 x9 4 σ) else (if x7 = 1 then (m3_soundOne_J66 c3 x5 x6 x8 x9 2 σ) else (m3_soundOne_J66 c3 x5 x6 x8 x9 1 σ))
set_option maxRecDepth 100000 in
set_option maxHeartbeats 4000000 in
theorem m3_soundOne_J44_ok {κ : Kx} (hκ : Gd κ cX3_soundOne 9 RX3 none 1) (c3 : Nat) (x5 : Int32) (x6 : Int32) (x7 : Int32) (x8 : Int32) (x9 : Int32) (h4 : sy_is3 c3) (σ : St) : Ab sy_cu κ 44 [sy_vr c3, none, sy_vi x5, sy_vi x6, sy_vi x7, sy_vi x8, none, none, none] [.int x9] σ (m3_soundOne_J44 c3 x5 x6 x7 x8 x9 σ) := by
  unfold m3_soundOne_J44
  refine ab_istore (lv' := [sy_vr c3, none, sy_vi x5, sy_vi x6, sy_vi x7, sy_vi x8, sy_vi x9, none, none]) hκ dX3_soundOne_44 (by decide) rfl ?_
  refine ab_iload hκ dX3_soundOne_46 rfl ?_
  refine ab_if_ne (tgt := 55) hκ dX3_soundOne_48 rfl ?_ ?_
  · refine ab_iload hκ dX3_soundOne_55 rfl ?_
    refine ab_iconst (v := 1) hκ dX3_soundOne_57 rfl ?_
    refine ab_icmp_ne (tgt := 65) hκ dX3_soundOne_58 rfl ?_ ?_
    · refine ab_iconst (v := 1) hκ dX3_soundOne_65 rfl ?_
      refine ab_fg (lv' := [sy_vr c3, none, sy_vi x5, sy_vi x6, none, sy_vi x8, sy_vi x9, none, none]) [4] rfl ?_
      exact m3_soundOne_J66_ok hκ c3 x5 x6 x8 x9 1 h4 σ
    · refine ab_iconst (v := 2) hκ dX3_soundOne_61 rfl ?_
      refine ab_goto (tgt := 66) hκ dX3_soundOne_62 rfl ?_
      refine ab_fg (lv' := [sy_vr c3, none, sy_vi x5, sy_vi x6, none, sy_vi x8, sy_vi x9, none, none]) [4] rfl ?_
      exact m3_soundOne_J66_ok hκ c3 x5 x6 x8 x9 2 h4 σ
  · refine ab_iconst (v := 4) hκ dX3_soundOne_51 rfl ?_
    refine ab_goto (tgt := 66) hκ dX3_soundOne_52 rfl ?_
    refine ab_fg (lv' := [sy_vr c3, none, sy_vi x5, sy_vi x6, none, sy_vi x8, sy_vi x9, none, none]) [4] rfl ?_
    exact m3_soundOne_J66_ok hκ c3 x5 x6 x8 x9 4 h4 σ
def m3_soundOne (this : Nat) (a1 : Nat) (a2 : Int32) (a3 : Int32) (σ : St) : Option (Unit × St) := if a3 < (σ a1 0) then (sy_gd a3 11 (sy_lt (σ (a1 + 1) (sy_ix a3)) (fun v1 => sy_gd a3 11 (sy_lt (sy_abs ((σ (a1 + 3) (sy_ix a3)) - (σ this 15))) (fun v2 => if v1 = 2 then (m3_soundOne_J44 this a2 a3 v1 v2 1 σ) else (m3_soundOne_J44 this a2 a3 v1 v2 0 σ)))))) else (some ((), σ))
set_option maxRecDepth 100000 in
set_option maxHeartbeats 4000000 in
theorem m3_soundOne_ok (this : Nat) (a1 : Nat) (a2 : Int32) (a3 : Int32) (hthis : sy_is3 this) (ha1 : sy_is0 a1) (σ : St) : Cok sy_cu yX3_soundOne cX3_soundOne 9 none 1 [.ref this, .ref a1, .int a2, .int a3] σ (m3_soundOne this a1 a2 a3 σ) := by
  refine cok_of (own := RX3) (by decide) rfl (fun ad => Nat.le_of_ble_eq_true rfl) (fun κ hκ => ?_)
  show Ab sy_cu κ 0 [sy_vr this, sy_vr a1, sy_vi a2, sy_vi a3, none, none, none, none, none] [] σ (m3_soundOne this a1 a2 a3 σ)
  unfold m3_soundOne
  refine ab_iload_n hκ dX3_soundOne_0 rfl ?_
  refine ab_aload_n hκ dX3_soundOne_1 rfl ?_
  refine ab_getf (v := .int (σ a1 0)) hκ (sy_o0 ha1) kf_RX3_128 rfl dX3_soundOne_2 rfl ?_
  refine ab_icmp_lt (tgt := 9) hκ dX3_soundOne_5 rfl ?_ ?_
  · refine ab_aload_n hκ dX3_soundOne_9 rfl ?_
    refine ab_getf (v := .ref (a1 + 1)) hκ (sy_o0 ha1) kf_RX3_131 rfl dX3_soundOne_10 rfl ?_
    refine ab_iload_n hκ dX3_soundOne_13 rfl ?_
    refine ab_iald hκ (sy_a0_1 ha1) dX3_soundOne_14 ?_
    refine ab_lti (fun v1 => ?_)
    refine ab_istore (lv' := [sy_vr this, sy_vr a1, sy_vi a2, sy_vi a3, sy_vi v1, none, none, none, none]) hκ dX3_soundOne_15 (by decide) rfl ?_
    refine ab_aload_n hκ dX3_soundOne_17 rfl ?_
    refine ab_getf (v := .ref (a1 + 3)) hκ (sy_o0 ha1) kf_RX3_134 rfl dX3_soundOne_18 rfl ?_
    refine ab_iload_n hκ dX3_soundOne_21 rfl ?_
    refine ab_iald hκ (sy_a0_3 ha1) dX3_soundOne_22 ?_
    refine ab_aload_n hκ dX3_soundOne_23 rfl ?_
    refine ab_getf (v := .int (σ this 15)) hκ (sy_o3 hthis) kf_RX3_73 rfl dX3_soundOne_24 rfl ?_
    refine ab_isub hκ dX3_soundOne_27 ?_
    refine ab_mabs hκ dX3_soundOne_28 kl_RX3_137 (by decide) (Nat.le_of_ble_eq_true rfl) ?_
    refine ab_lti (fun v2 => ?_)
    refine ab_istore (lv' := [sy_vr this, sy_vr a1, sy_vi a2, sy_vi a3, sy_vi v1, sy_vi v2, none, none, none]) hκ dX3_soundOne_31 (by decide) rfl ?_
    refine ab_iload hκ dX3_soundOne_33 rfl ?_
    refine ab_iconst (v := 2) hκ dX3_soundOne_35 rfl ?_
    refine ab_icmp_ne (tgt := 43) hκ dX3_soundOne_36 rfl ?_ ?_
    · refine ab_iconst (v := 0) hκ dX3_soundOne_43 rfl ?_
      refine ab_fg (lv' := [sy_vr this, none, sy_vi a2, sy_vi a3, sy_vi v1, sy_vi v2, none, none, none]) [1] rfl ?_
      exact m3_soundOne_J44_ok hκ this a2 a3 v1 v2 0 hthis σ
    · refine ab_iconst (v := 1) hκ dX3_soundOne_39 rfl ?_
      refine ab_goto (tgt := 44) hκ dX3_soundOne_40 rfl ?_
      refine ab_fg (lv' := [sy_vr this, none, sy_vi a2, sy_vi a3, sy_vi v1, sy_vi v2, none, none, none]) [1] rfl ?_
      exact m3_soundOne_J44_ok hκ this a2 a3 v1 v2 1 hthis σ
  · exact ab_vret hκ dX3_soundOne_8
-- BreathBand$Run.passOn(LBreathBand$Band;Z)I, depth 1
def m3_passOn_J75 (c10 : Nat) (x12 : Int32) (x13 : Int32) (x14 : Int32) (x15 : Int32)  (σ : St) : Option (Int32 × St) := sy_lt (sy_min x15 x14) (fun v16 => sy_lt (sy_sf σ c10 16 ((σ c10 16) - v16)) (fun σ17 => sy_gd x12 11 (sy_gd x12 11 (sy_lt (sy_sf σ17 (c10 + 7) (sy_ix x12) ((σ17 (c10 + 7) (sy_ix x12)) + v16)) (fun σ18 => sy_lt (sy_sf σ18 c10 10 ((σ18 c10 10) + v16)) (fun σ19 => if x13 = 0 then (sy_lt (sy_sf σ19 c10 15 ((σ19 c10 15) + 1)) (fun σ20 => some (v16, σ20))) else (sy_lt (sy_sf σ19 c10 15 0) (fun σ21 => some (v16, σ21)))))))))
set_option maxRecDepth 100000 in
set_option maxHeartbeats 4000000 in
theorem m3_passOn_J75_ok {κ : Kx} (hκ : Gd κ cX3_passOn 7 RX3 (some .int) 1) (c10 : Nat) (x12 : Int32) (x13 : Int32) (x14 : Int32) (x15 : Int32) (h11 : sy_is3 c10) (σ : St) : Ab sy_vi κ 75 [sy_vr c10, none, none, sy_vi x12, sy_vi x13, none, none] [.int x14, .int x15] σ (m3_passOn_J75 c10 x12 x13 x14 x15 σ) := by
  unfold m3_passOn_J75
  refine ab_mmin hκ dX3_passOn_75 kl_RX3_122 (by decide) (Nat.le_of_ble_eq_true rfl) ?_
  refine ab_lti (fun v16 => ?_)
  refine ab_istore (lv' := [sy_vr c10, none, none, sy_vi x12, sy_vi x13, none, sy_vi v16]) hκ dX3_passOn_78 (by decide) rfl ?_
  refine ab_aload_n hκ dX3_passOn_80 rfl ?_
  refine ab_dupa hκ dX3_passOn_81 ?_
  refine ab_getf (v := .int (σ c10 16)) hκ (sy_o3 h11) kf_RX3_76 rfl dX3_passOn_82 rfl ?_
  refine ab_iload hκ dX3_passOn_85 rfl ?_
  refine ab_isub hκ dX3_passOn_87 ?_
  refine ab_putf hκ (sy_o3 h11) kp_RX3_76 rfl dX3_passOn_88 ?_
  refine ab_lts (fun σ17 => ?_)
  refine ab_aload_n hκ dX3_passOn_91 rfl ?_
  refine ab_getf (v := .ref (c10 + 7)) hκ (sy_o3 h11) kf_RX3_30 rfl dX3_passOn_92 rfl ?_
  refine ab_iload_n hκ dX3_passOn_95 rfl ?_
  refine ab_dup2 hκ dX3_passOn_96 ?_
  refine ab_iald hκ (sy_a3_6 h11) dX3_passOn_97 ?_
  refine ab_iload hκ dX3_passOn_98 rfl ?_
  refine ab_iadd hκ dX3_passOn_100 ?_
  refine ab_iast hκ (sy_a3_6 h11) dX3_passOn_101 ?_
  refine ab_lts (fun σ18 => ?_)
  refine ab_aload_n hκ dX3_passOn_102 rfl ?_
  refine ab_dupa hκ dX3_passOn_103 ?_
  refine ab_getf (v := .int (σ18 c10 10)) hκ (sy_o3 h11) kf_RX3_94 rfl dX3_passOn_104 rfl ?_
  refine ab_iload hκ dX3_passOn_107 rfl ?_
  refine ab_iadd hκ dX3_passOn_109 ?_
  refine ab_putf hκ (sy_o3 h11) kp_RX3_94 rfl dX3_passOn_110 ?_
  refine ab_lts (fun σ19 => ?_)
  refine ab_aload_n hκ dX3_passOn_113 rfl ?_
  refine ab_iload hκ dX3_passOn_114 rfl ?_
  refine ab_if_eq (tgt := 123) hκ dX3_passOn_116 rfl ?_ ?_
  · refine ab_aload_n hκ dX3_passOn_123 rfl ?_
    refine ab_getf (v := .int (σ19 c10 15)) hκ (sy_o3 h11) kf_RX3_73 rfl dX3_passOn_124 rfl ?_
    refine ab_iconst (v := 1) hκ dX3_passOn_127 rfl ?_
    refine ab_iadd hκ dX3_passOn_128 ?_
    refine ab_putf hκ (sy_o3 h11) kp_RX3_73 rfl dX3_passOn_129 ?_
    refine ab_lts (fun σ20 => ?_)
    refine ab_iload hκ dX3_passOn_132 rfl ?_
    exact ab_iret hκ dX3_passOn_134
  · refine ab_iconst (v := 0) hκ dX3_passOn_119 rfl ?_
    refine ab_goto (tgt := 129) hκ dX3_passOn_120 rfl ?_
    refine ab_putf hκ (sy_o3 h11) kp_RX3_73 rfl dX3_passOn_129 ?_
    refine ab_lts (fun σ21 => ?_)
    refine ab_iload hκ dX3_passOn_132 rfl ?_
    exact ab_iret hκ dX3_passOn_134
def m3_passOn_J55 (c2 : Nat) (x4 : Int32) (x5 : Int32) (x6 : Int32) (x7 : Int32) (x8 : Int32)  (σ : St) : Option (Int32 × St) := sy_lt (x8 + x7) (fun v9 => if x4 = 0 then (m3_passOn_J75 c2 x5 x6 v9 (σ c2 16) σ) else (m3_passOn_J75 c2 x5 x6 (2 * v9) (σ c2 16) σ))
set_option maxRecDepth 100000 in
set_option maxHeartbeats 4000000 in
theorem m3_passOn_J55_ok {κ : Kx} (hκ : Gd κ cX3_passOn 7 RX3 (some .int) 1) (c2 : Nat) (x4 : Int32) (x5 : Int32) (x6 : Int32) (x7 : Int32) (x8 : Int32) (h3 : sy_is3 c2) (σ : St) : Ab sy_vi κ 55 [sy_vr c2, none, sy_vi x4, sy_vi x5, sy_vi x6, none, none] [.int x7, .int x8] σ (m3_passOn_J55 c2 x4 x5 x6 x7 x8 σ) := by
  unfold m3_passOn_J55
  refine ab_iadd hκ dX3_passOn_55 ?_
  refine ab_lti (fun v9 => ?_)
  refine ab_istore (lv' := [sy_vr c2, none, sy_vi x4, sy_vi x5, sy_vi x6, sy_vi v9, none]) hκ dX3_passOn_56 (by decide) rfl ?_
  refine ab_aload_n hκ dX3_passOn_58 rfl ?_
  refine ab_getf (v := .int (σ c2 16)) hκ (sy_o3 h3) kf_RX3_76 rfl dX3_passOn_59 rfl ?_
  refine ab_iload_n hκ dX3_passOn_62 rfl ?_
  refine ab_if_eq (tgt := 73) hκ dX3_passOn_63 rfl ?_ ?_
  · refine ab_iload hκ dX3_passOn_73 rfl ?_
    refine ab_fg (lv' := [sy_vr c2, none, none, sy_vi x5, sy_vi x6, none, none]) [2, 5] rfl ?_
    exact m3_passOn_J75_ok hκ c2 x5 x6 v9 (σ c2 16) h3 σ
  · refine ab_iconst (v := 2) hκ dX3_passOn_66 rfl ?_
    refine ab_iload hκ dX3_passOn_67 rfl ?_
    refine ab_imul hκ dX3_passOn_69 ?_
    refine ab_goto (tgt := 75) hκ dX3_passOn_70 rfl ?_
    refine ab_fg (lv' := [sy_vr c2, none, none, sy_vi x5, sy_vi x6, none, none]) [2, 5] rfl ?_
    exact m3_passOn_J75_ok hκ c2 x5 x6 (2 * v9) (σ c2 16) h3 σ
def m3_passOn (this : Nat) (a1 : Nat) (a2 : Int32) (σ : St) : Option (Int32 × St) := if (σ a1 0) = 0 then (some (0, σ)) else (sy_gd (σ this 15) 11 (sy_lt (σ (a1 + 4) (sy_ix (σ this 15))) (fun v1 => if (σ this 15) = ((σ a1 0) - 1) then (sy_gd v1 11 (if (1 : Int32) = 0 then (m3_passOn_J55 this a2 v1 1 0 (σ (a1 + 2) (sy_ix v1)) σ) else (m3_passOn_J55 this a2 v1 1 2 (σ (a1 + 2) (sy_ix v1)) σ))) else (sy_gd v1 11 (if (0 : Int32) = 0 then (m3_passOn_J55 this a2 v1 0 0 (σ (a1 + 2) (sy_ix v1)) σ) else (m3_passOn_J55 this a2 v1 0 2 (σ (a1 + 2) (sy_ix v1)) σ))))))
set_option maxRecDepth 100000 in
set_option maxHeartbeats 4000000 in
theorem m3_passOn_ok (this : Nat) (a1 : Nat) (a2 : Int32) (hthis : sy_is3 this) (ha1 : sy_is0 a1) (σ : St) : Cok sy_vi yX3_passOn cX3_passOn 7 (some .int) 1 [.ref this, .ref a1, .int a2] σ (m3_passOn this a1 a2 σ) := by
  refine cok_of (own := RX3) (by decide) rfl (fun ad => Nat.le_of_ble_eq_true rfl) (fun κ hκ => ?_)
  show Ab sy_vi κ 0 [sy_vr this, sy_vr a1, sy_vi a2, none, none, none, none] [] σ (m3_passOn this a1 a2 σ)
  unfold m3_passOn
  refine ab_aload_n hκ dX3_passOn_0 rfl ?_
  refine ab_getf (v := .int (σ a1 0)) hκ (sy_o0 ha1) kf_RX3_128 rfl dX3_passOn_1 rfl ?_
  refine ab_if_ne (tgt := 9) hκ dX3_passOn_4 rfl ?_ ?_
  · refine ab_aload_n hκ dX3_passOn_9 rfl ?_
    refine ab_getf (v := .ref (a1 + 4)) hκ (sy_o0 ha1) kf_RX3_141 rfl dX3_passOn_10 rfl ?_
    refine ab_aload_n hκ dX3_passOn_13 rfl ?_
    refine ab_getf (v := .int (σ this 15)) hκ (sy_o3 hthis) kf_RX3_73 rfl dX3_passOn_14 rfl ?_
    refine ab_iald hκ (sy_a0_4 ha1) dX3_passOn_17 ?_
    refine ab_lti (fun v1 => ?_)
    refine ab_istore_n (lv' := [sy_vr this, sy_vr a1, sy_vi a2, sy_vi v1, none, none, none]) hκ dX3_passOn_18 rfl (by decide) rfl ?_
    refine ab_aload_n hκ dX3_passOn_19 rfl ?_
    refine ab_getf (v := .int (σ this 15)) hκ (sy_o3 hthis) kf_RX3_73 rfl dX3_passOn_20 rfl ?_
    refine ab_aload_n hκ dX3_passOn_23 rfl ?_
    refine ab_getf (v := .int (σ a1 0)) hκ (sy_o0 ha1) kf_RX3_128 rfl dX3_passOn_24 rfl ?_
    refine ab_iconst (v := 1) hκ dX3_passOn_27 rfl ?_
    refine ab_isub hκ dX3_passOn_28 ?_
    refine ab_icmp_ne (tgt := 36) hκ dX3_passOn_29 rfl ?_ ?_
    · refine ab_iconst (v := 0) hκ dX3_passOn_36 rfl ?_
      refine ab_istore (lv' := [sy_vr this, sy_vr a1, sy_vi a2, sy_vi v1, sy_vi 0, none, none]) hκ dX3_passOn_37 (by decide) rfl ?_
      refine ab_aload_n hκ dX3_passOn_39 rfl ?_
      refine ab_getf (v := .ref (a1 + 2)) hκ (sy_o0 ha1) kf_RX3_144 rfl dX3_passOn_40 rfl ?_
      refine ab_iload_n hκ dX3_passOn_43 rfl ?_
      refine ab_iald hκ (sy_a0_2 ha1) dX3_passOn_44 ?_
      refine ab_iload hκ dX3_passOn_45 rfl ?_
      refine ab_if_eq (tgt := 54) hκ dX3_passOn_47 rfl ?_ ?_
      · refine ab_iconst (v := 0) hκ dX3_passOn_54 rfl ?_
        refine ab_fg (lv' := [sy_vr this, none, sy_vi a2, sy_vi v1, sy_vi 0, none, none]) [1] rfl ?_
        exact m3_passOn_J55_ok hκ this a2 v1 0 0 (σ (a1 + 2) (sy_ix v1)) hthis σ
      · refine ab_iconst (v := 2) hκ dX3_passOn_50 rfl ?_
        refine ab_goto (tgt := 55) hκ dX3_passOn_51 rfl ?_
        refine ab_fg (lv' := [sy_vr this, none, sy_vi a2, sy_vi v1, sy_vi 0, none, none]) [1] rfl ?_
        exact m3_passOn_J55_ok hκ this a2 v1 0 2 (σ (a1 + 2) (sy_ix v1)) hthis σ
    · refine ab_iconst (v := 1) hκ dX3_passOn_32 rfl ?_
      refine ab_goto (tgt := 37) hκ dX3_passOn_33 rfl ?_
      refine ab_istore (lv' := [sy_vr this, sy_vr a1, sy_vi a2, sy_vi v1, sy_vi 1, none, none]) hκ dX3_passOn_37 (by decide) rfl ?_
      refine ab_aload_n hκ dX3_passOn_39 rfl ?_
      refine ab_getf (v := .ref (a1 + 2)) hκ (sy_o0 ha1) kf_RX3_144 rfl dX3_passOn_40 rfl ?_
      refine ab_iload_n hκ dX3_passOn_43 rfl ?_
      refine ab_iald hκ (sy_a0_2 ha1) dX3_passOn_44 ?_
      refine ab_iload hκ dX3_passOn_45 rfl ?_
      refine ab_if_eq (tgt := 54) hκ dX3_passOn_47 rfl ?_ ?_
      · refine ab_iconst (v := 0) hκ dX3_passOn_54 rfl ?_
        refine ab_fg (lv' := [sy_vr this, none, sy_vi a2, sy_vi v1, sy_vi 1, none, none]) [1] rfl ?_
        exact m3_passOn_J55_ok hκ this a2 v1 1 0 (σ (a1 + 2) (sy_ix v1)) hthis σ
      · refine ab_iconst (v := 2) hκ dX3_passOn_50 rfl ?_
        refine ab_goto (tgt := 55) hκ dX3_passOn_51 rfl ?_
        refine ab_fg (lv' := [sy_vr this, none, sy_vi a2, sy_vi v1, sy_vi 1, none, none]) [1] rfl ?_
        exact m3_passOn_J55_ok hκ this a2 v1 1 2 (σ (a1 + 2) (sy_ix v1)) hthis σ
  · refine ab_iconst (v := 0) hκ dX3_passOn_7 rfl ?_
    exact ab_iret hκ dX3_passOn_8
-- BreathBand$Run.play(LBreathBand$Band;)V, depth 2
def m3_play_L38b (c10 : Nat) (c12 : Nat) (K38 : Int32 → Int32 → Int32 → St → Option (Unit × St)) (E38_83 : Int32 → St → Option (Unit × St)) (x14 : Int32) (x15 : Int32) (x16 : Int32) (σ : St) : Option (Unit × St) := if (σ c12 5) ≤ x16 then (E38_83 x14 σ) else (if (x15 >>> (x16 &&& 31)) = 0 then (E38_83 x14 σ) else (if ((x15 >>> (x16 &&& 31)) &&& 1) = 0 then (K38 x14 x15 (x16 + 1) σ) else (sy_gd x16 16 (sy_bd (m3_soundOne c10 c12 x16 (σ (c12 + 6) (sy_ix x16)) σ) (fun _ σ17 => K38 x14 x15 (x16 + 1) σ17)))))
def m3_play_L38 (c10 : Nat) (c12 : Nat) (E38_83 : Int32 → St → Option (Unit × St)) : Nat → Int32 → Int32 → Int32 → St → Option (Unit × St)
  | 0 => fun _ _ _ _ => none
  | n + 1 => m3_play_L38b c10 c12 (m3_play_L38 c10 c12 E38_83 n) E38_83
set_option maxRecDepth 100000 in
set_option maxHeartbeats 4000000 in
theorem m3_play_L38b_ok {κ : Kx} (hκ : Gd κ cX3_play 5 RX3 none 2) (c10 : Nat) (c12 : Nat) (h11 : sy_is3 c10) (h13 : sy_is0 c12) {K38 : Int32 → Int32 → Int32 → St → Option (Unit × St)} (hK38 : ∀ (x14 : Int32) (x15 : Int32) (x16 : Int32) (σ : St), Ab sy_cu κ 38 [sy_vr c10, sy_vr c12, sy_vi x14, sy_vi x15, sy_vi x16] [] σ (K38 x14 x15 x16 σ)) {E38_83 : Int32 → St → Option (Unit × St)} (hE38_83 : ∀ (y2 : Int32) (σ : St), Ab sy_cu κ 83 [sy_vr c10, sy_vr c12, sy_vi y2, none, none] [] σ (E38_83 y2 σ)) (x14 : Int32) (x15 : Int32) (x16 : Int32) (σ : St) : Ab sy_cu κ 38 [sy_vr c10, sy_vr c12, sy_vi x14, sy_vi x15, sy_vi x16] [] σ (m3_play_L38b c10 c12 K38 E38_83 x14 x15 x16 σ) := by
  unfold m3_play_L38b
  refine ab_iload hκ dX3_play_38 rfl ?_
  refine ab_aload_n hκ dX3_play_40 rfl ?_
  refine ab_getf (v := .int (σ c12 5)) hκ (sy_o0 h13) kf_RX3_52 rfl dX3_play_41 rfl ?_
  refine ab_icmp_ge (tgt := 83) hκ dX3_play_44 rfl ?_ ?_
  · refine ab_fg (lv' := [sy_vr c10, sy_vr c12, sy_vi x14, none, none]) [3, 4] rfl ?_
    exact hE38_83 x14 σ
  · refine ab_iload_n hκ dX3_play_47 rfl ?_
    refine ab_iload hκ dX3_play_48 rfl ?_
    refine ab_ishr hκ dX3_play_50 ?_
    refine ab_if_eq (tgt := 83) hκ dX3_play_51 rfl ?_ ?_
    · refine ab_fg (lv' := [sy_vr c10, sy_vr c12, sy_vi x14, none, none]) [3, 4] rfl ?_
      exact hE38_83 x14 σ
    · refine ab_iload_n hκ dX3_play_54 rfl ?_
      refine ab_iload hκ dX3_play_55 rfl ?_
      refine ab_ishr hκ dX3_play_57 ?_
      refine ab_iconst (v := 1) hκ dX3_play_58 rfl ?_
      refine ab_iand hκ dX3_play_59 ?_
      refine ab_if_eq (tgt := 77) hκ dX3_play_60 rfl ?_ ?_
      · refine ab_iinc (v := (x16 + 1)) (lv' := [sy_vr c10, sy_vr c12, sy_vi x14, sy_vi x15, sy_vi (x16 + 1)]) hκ dX3_play_77 rfl rfl (by decide) rfl ?_
        refine ab_goto (tgt := 38) hκ dX3_play_80 rfl ?_
        exact hK38 x14 x15 (x16 + 1) σ
      · refine ab_aload_n hκ dX3_play_63 rfl ?_
        refine ab_aload_n hκ dX3_play_64 rfl ?_
        refine ab_iload hκ dX3_play_65 rfl ?_
        refine ab_aload_n hκ dX3_play_67 rfl ?_
        refine ab_getf (v := .ref (c12 + 6)) hκ (sy_o0 h13) kf_RX3_56 rfl dX3_play_68 rfl ?_
        refine ab_iload hκ dX3_play_71 rfl ?_
        refine ab_iald hκ (sy_a0_7 h13) dX3_play_73 ?_
        refine ab_cVv (vs := [.ref c12, .int x16, .int (σ (c12 + 6) (sy_ix x16))]) (st := []) hκ dX3_play_74 kl_RX3_59 ki_X3_soundOne kv_X3_soundOne (sy_o3 h11) rfl rfl (m3_soundOne_ok c10 c12 x16 (σ (c12 + 6) (sy_ix x16)) h11 h13 σ) rfl (by decide) (Nat.le_of_ble_eq_true rfl) rfl (fun _ σ17 => ?_)
        refine ab_iinc (v := (x16 + 1)) (lv' := [sy_vr c10, sy_vr c12, sy_vi x14, sy_vi x15, sy_vi (x16 + 1)]) hκ dX3_play_77 rfl rfl (by decide) rfl ?_
        refine ab_goto (tgt := 38) hκ dX3_play_80 rfl ?_
        exact hK38 x14 x15 (x16 + 1) σ17
theorem m3_play_L38_ok {κ : Kx} (hκ : Gd κ cX3_play 5 RX3 none 2) (c10 : Nat) (c12 : Nat) (h11 : sy_is3 c10) (h13 : sy_is0 c12) {E38_83 : Int32 → St → Option (Unit × St)} (hE38_83 : ∀ (y2 : Int32) (σ : St), Ab sy_cu κ 83 [sy_vr c10, sy_vr c12, sy_vi y2, none, none] [] σ (E38_83 y2 σ)) : ∀ (n : Nat) (x14 : Int32) (x15 : Int32) (x16 : Int32) (σ : St), Ab sy_cu κ 38 [sy_vr c10, sy_vr c12, sy_vi x14, sy_vi x15, sy_vi x16] [] σ (m3_play_L38 c10 c12 E38_83 n x14 x15 x16 σ) := by
  intro n
  induction n with
  | zero => intros; exact ab_none
  | succ n ih => exact fun x14 x15 x16 σ => m3_play_L38b_ok hκ c10 c12 h11 h13 ih hE38_83 x14 x15 x16 σ
def m3_play_J119 (c3 : Nat) (c5 : Nat) (K12 : Int32 → St → Option (Unit × St)) (E12_155 : St → Option (Unit × St)) (x23 : Int32) (x24 : Int32)  (σ : St) : Option (Unit × St) := sy_gd x23 24 (sy_lt (sy_sf σ (c3 + 1) (sy_ix x23) (σ c3 15)) (fun σ25 => sy_gd x23 24 (sy_lt (sy_sf σ25 (c3 + 2) (sy_ix x23) (σ25 c3 16)) (fun σ26 => sy_gd x23 24 (sy_lt (sy_sf σ26 (c3 + 3) (sy_ix x23) x24) (fun σ27 => K12 (x23 + 1) σ27))))))
set_option maxRecDepth 100000 in
set_option maxHeartbeats 4000000 in
theorem m3_play_J119_ok {κ : Kx} (hκ : Gd κ cX3_play 5 RX3 none 2) (c3 : Nat) (c5 : Nat) (h4 : sy_is3 c3) (h6 : sy_is0 c5) {K12 : Int32 → St → Option (Unit × St)} (hK12 : ∀ (x7 : Int32) (σ : St), Ab sy_cu κ 12 [sy_vr c3, sy_vr c5, sy_vi x7, none, none] [] σ (K12 x7 σ)) {E12_155 : St → Option (Unit × St)} (hE12_155 : ∀ (σ : St), Ab sy_cu κ 155 [none, none, none, none, none] [] σ (E12_155  σ)) (x23 : Int32) (x24 : Int32) (σ : St) : Ab sy_cu κ 119 [sy_vr c3, sy_vr c5, sy_vi x23, none, none] [.int x24] σ (m3_play_J119 c3 c5 K12 E12_155 x23 x24 σ) := by
  unfold m3_play_J119
  refine ab_istore (lv' := [sy_vr c3, sy_vr c5, sy_vi x23, none, sy_vi x24]) hκ dX3_play_119 (by decide) rfl ?_
  refine ab_aload_n hκ dX3_play_121 rfl ?_
  refine ab_getf (v := .ref (c3 + 1)) hκ (sy_o3 h4) kf_RX3_9 rfl dX3_play_122 rfl ?_
  refine ab_iload_n hκ dX3_play_125 rfl ?_
  refine ab_aload_n hκ dX3_play_126 rfl ?_
  refine ab_getf (v := .int (σ c3 15)) hκ (sy_o3 h4) kf_RX3_73 rfl dX3_play_127 rfl ?_
  refine ab_iast hκ (sy_a3_0 h4) dX3_play_130 ?_
  refine ab_lts (fun σ25 => ?_)
  refine ab_aload_n hκ dX3_play_131 rfl ?_
  refine ab_getf (v := .ref (c3 + 2)) hκ (sy_o3 h4) kf_RX3_15 rfl dX3_play_132 rfl ?_
  refine ab_iload_n hκ dX3_play_135 rfl ?_
  refine ab_aload_n hκ dX3_play_136 rfl ?_
  refine ab_getf (v := .int (σ25 c3 16)) hκ (sy_o3 h4) kf_RX3_76 rfl dX3_play_137 rfl ?_
  refine ab_iast hκ (sy_a3_1 h4) dX3_play_140 ?_
  refine ab_lts (fun σ26 => ?_)
  refine ab_aload_n hκ dX3_play_141 rfl ?_
  refine ab_getf (v := .ref (c3 + 3)) hκ (sy_o3 h4) kf_RX3_18 rfl dX3_play_142 rfl ?_
  refine ab_iload_n hκ dX3_play_145 rfl ?_
  refine ab_iload hκ dX3_play_146 rfl ?_
  refine ab_iast hκ (sy_a3_2 h4) dX3_play_148 ?_
  refine ab_lts (fun σ27 => ?_)
  refine ab_iinc (v := (x23 + 1)) (lv' := [sy_vr c3, sy_vr c5, sy_vi (x23 + 1), none, sy_vi x24]) hκ dX3_play_149 rfl rfl (by decide) rfl ?_
  refine ab_goto (tgt := 12) hκ dX3_play_152 rfl ?_
  refine ab_fg (lv' := [sy_vr c3, sy_vr c5, sy_vi (x23 + 1), none, none]) [4] rfl ?_
  exact hK12 (x23 + 1) σ27
def m3_play_J83 (c3 : Nat) (c5 : Nat) (K12 : Int32 → St → Option (Unit × St)) (E12_155 : St → Option (Unit × St)) (x20 : Int32)  (σ : St) : Option (Unit × St) := if (((σ c3 14) >>> (x20 &&& 31)) &&& 1) = 0 then (if (((σ c3 13) >>> (x20 &&& 31)) &&& 1) = 0 then (sy_bd (m3_passOn c3 c5 0 σ) (fun r22 σ21 => m3_play_J119 c3 c5 K12 E12_155 x20 r22 σ21)) else (sy_bd (m3_passOn c3 c5 1 σ) (fun r29 σ28 => m3_play_J119 c3 c5 K12 E12_155 x20 r29 σ28))) else (m3_play_J119 c3 c5 K12 E12_155 x20 0 σ)
set_option maxRecDepth 100000 in
set_option maxHeartbeats 4000000 in
theorem m3_play_J83_ok {κ : Kx} (hκ : Gd κ cX3_play 5 RX3 none 2) (c3 : Nat) (c5 : Nat) (h4 : sy_is3 c3) (h6 : sy_is0 c5) {K12 : Int32 → St → Option (Unit × St)} (hK12 : ∀ (x7 : Int32) (σ : St), Ab sy_cu κ 12 [sy_vr c3, sy_vr c5, sy_vi x7, none, none] [] σ (K12 x7 σ)) {E12_155 : St → Option (Unit × St)} (hE12_155 : ∀ (σ : St), Ab sy_cu κ 155 [none, none, none, none, none] [] σ (E12_155  σ)) (x20 : Int32) (σ : St) : Ab sy_cu κ 83 [sy_vr c3, sy_vr c5, sy_vi x20, none, none] [] σ (m3_play_J83 c3 c5 K12 E12_155 x20 σ) := by
  unfold m3_play_J83
  refine ab_aload_n hκ dX3_play_83 rfl ?_
  refine ab_getf (v := .int (σ c3 14)) hκ (sy_o3 h4) kf_RX3_63 rfl dX3_play_84 rfl ?_
  refine ab_iload_n hκ dX3_play_87 rfl ?_
  refine ab_ishr hκ dX3_play_88 ?_
  refine ab_iconst (v := 1) hκ dX3_play_89 rfl ?_
  refine ab_iand hκ dX3_play_90 ?_
  refine ab_if_eq (tgt := 98) hκ dX3_play_91 rfl ?_ ?_
  · refine ab_aload_n hκ dX3_play_98 rfl ?_
    refine ab_aload_n hκ dX3_play_99 rfl ?_
    refine ab_aload_n hκ dX3_play_100 rfl ?_
    refine ab_getf (v := .int (σ c3 13)) hκ (sy_o3 h4) kf_RX3_66 rfl dX3_play_101 rfl ?_
    refine ab_iload_n hκ dX3_play_104 rfl ?_
    refine ab_ishr hκ dX3_play_105 ?_
    refine ab_iconst (v := 1) hκ dX3_play_106 rfl ?_
    refine ab_iand hκ dX3_play_107 ?_
    refine ab_if_eq (tgt := 115) hκ dX3_play_108 rfl ?_ ?_
    · refine ab_iconst (v := 0) hκ dX3_play_115 rfl ?_
      refine ab_cVi (vs := [.ref c5, .int 0]) (st := []) hκ dX3_play_116 kl_RX3_69 ki_X3_passOn kv_X3_passOn (sy_o3 h4) rfl rfl (m3_passOn_ok c3 c5 0 h4 h6 σ) rfl (by decide) (Nat.le_of_ble_eq_true rfl) rfl (fun r22 σ21 => ?_)
      exact m3_play_J119_ok hκ c3 c5 h4 h6 hK12 hE12_155 x20 r22 σ21
    · refine ab_iconst (v := 1) hκ dX3_play_111 rfl ?_
      refine ab_goto (tgt := 116) hκ dX3_play_112 rfl ?_
      refine ab_cVi (vs := [.ref c5, .int 1]) (st := []) hκ dX3_play_116 kl_RX3_69 ki_X3_passOn kv_X3_passOn (sy_o3 h4) rfl rfl (m3_passOn_ok c3 c5 1 h4 h6 σ) rfl (by decide) (Nat.le_of_ble_eq_true rfl) rfl (fun r29 σ28 => ?_)
      exact m3_play_J119_ok hκ c3 c5 h4 h6 hK12 hE12_155 x20 r29 σ28
  · refine ab_iconst (v := 0) hκ dX3_play_94 rfl ?_
    refine ab_goto (tgt := 119) hκ dX3_play_95 rfl ?_
    exact m3_play_J119_ok hκ c3 c5 h4 h6 hK12 hE12_155 x20 0 σ
def m3_play_L12b (c3 : Nat) (c5 : Nat) (K12 : Int32 → St → Option (Unit × St)) (E12_155 : St → Option (Unit × St)) (x7 : Int32) (σ : St) : Option (Unit × St) := if 24 ≤ x7 then (E12_155  σ) else (sy_gd x7 24 (sy_bd (m3_steal c3 (σ (c3 + 8) (sy_ix x7)) σ) (fun _ σ8 => sy_gd x7 24 (sy_lt (σ8 (c5 + 7) (sy_ix x7)) (fun v9 => m3_play_L38 c3 c5 (fun y18 σ19 => m3_play_J83 c3 c5 K12 E12_155 y18 σ19) sy_FU x7 v9 0 σ8)))))
def m3_play_L12 (c3 : Nat) (c5 : Nat) (E12_155 : St → Option (Unit × St)) : Nat → Int32 → St → Option (Unit × St)
  | 0 => fun _ _ => none
  | n + 1 => m3_play_L12b c3 c5 (m3_play_L12 c3 c5 E12_155 n) E12_155
set_option maxRecDepth 100000 in
set_option maxHeartbeats 4000000 in
theorem m3_play_L12b_ok {κ : Kx} (hκ : Gd κ cX3_play 5 RX3 none 2) (c3 : Nat) (c5 : Nat) (h4 : sy_is3 c3) (h6 : sy_is0 c5) {K12 : Int32 → St → Option (Unit × St)} (hK12 : ∀ (x7 : Int32) (σ : St), Ab sy_cu κ 12 [sy_vr c3, sy_vr c5, sy_vi x7, none, none] [] σ (K12 x7 σ)) {E12_155 : St → Option (Unit × St)} (hE12_155 : ∀ (σ : St), Ab sy_cu κ 155 [none, none, none, none, none] [] σ (E12_155  σ)) (x7 : Int32) (σ : St) : Ab sy_cu κ 12 [sy_vr c3, sy_vr c5, sy_vi x7, none, none] [] σ (m3_play_L12b c3 c5 K12 E12_155 x7 σ) := by
  unfold m3_play_L12b
  refine ab_iload_n hκ dX3_play_12 rfl ?_
  refine ab_bipush (v := 24) hκ dX3_play_13 rfl ?_
  refine ab_icmp_ge (tgt := 155) hκ dX3_play_15 rfl ?_ ?_
  · refine ab_fg (lv' := [none, none, none, none, none]) [0, 1, 2] rfl ?_
    exact hE12_155  σ
  · refine ab_aload_n hκ dX3_play_18 rfl ?_
    refine ab_aload_n hκ dX3_play_19 rfl ?_
    refine ab_getf (v := .ref (c3 + 8)) hκ (sy_o3 h4) kf_RX3_33 rfl dX3_play_20 rfl ?_
    refine ab_iload_n hκ dX3_play_23 rfl ?_
    refine ab_iald hκ (sy_a3_12 h4) dX3_play_24 ?_
    refine ab_cVv (vs := [.int (σ (c3 + 8) (sy_ix x7))]) (st := []) hκ dX3_play_25 kl_RX3_43 ki_X3_steal kv_X3_steal (sy_o3 h4) rfl rfl (m3_steal_ok c3 (σ (c3 + 8) (sy_ix x7)) h4 σ) rfl (by decide) (Nat.le_of_ble_eq_true rfl) rfl (fun _ σ8 => ?_)
    refine ab_aload_n hκ dX3_play_28 rfl ?_
    refine ab_getf (v := .ref (c5 + 7)) hκ (sy_o0 h6) kf_RX3_47 rfl dX3_play_29 rfl ?_
    refine ab_iload_n hκ dX3_play_32 rfl ?_
    refine ab_iald hκ (sy_a0_8 h6) dX3_play_33 ?_
    refine ab_lti (fun v9 => ?_)
    refine ab_istore_n (lv' := [sy_vr c3, sy_vr c5, sy_vi x7, sy_vi v9, none]) hκ dX3_play_34 rfl (by decide) rfl ?_
    refine ab_iconst (v := 0) hκ dX3_play_35 rfl ?_
    refine ab_istore (lv' := [sy_vr c3, sy_vr c5, sy_vi x7, sy_vi v9, sy_vi 0]) hκ dX3_play_36 (by decide) rfl ?_
    refine m3_play_L38_ok hκ c3 c5 h4 h6 ?_ _ _ _ _ _
    · intro y18 σ19
      exact m3_play_J83_ok hκ c3 c5 h4 h6 hK12 hE12_155 y18 σ19
theorem m3_play_L12_ok {κ : Kx} (hκ : Gd κ cX3_play 5 RX3 none 2) (c3 : Nat) (c5 : Nat) (h4 : sy_is3 c3) (h6 : sy_is0 c5) {E12_155 : St → Option (Unit × St)} (hE12_155 : ∀ (σ : St), Ab sy_cu κ 155 [none, none, none, none, none] [] σ (E12_155  σ)) : ∀ (n : Nat) (x7 : Int32) (σ : St), Ab sy_cu κ 12 [sy_vr c3, sy_vr c5, sy_vi x7, none, none] [] σ (m3_play_L12 c3 c5 E12_155 n x7 σ) := by
  intro n
  induction n with
  | zero => intros; exact ab_none
  | succ n ih => exact fun x7 σ => m3_play_L12b_ok hκ c3 c5 h4 h6 ih hE12_155 x7 σ
def m3_play (this : Nat) (a1 : Nat) (σ : St) : Option (Unit × St) := sy_bd (m3_clear this a1 σ) (fun _ σ1 => sy_bd (m3_gatherEvents this a1 σ1) (fun _ σ2 => m3_play_L12 this a1 (fun  σ30 => some ((), σ30)) sy_FU 0 σ2))
set_option maxRecDepth 100000 in
set_option maxHeartbeats 4000000 in
theorem m3_play_ok (this : Nat) (a1 : Nat) (hthis : sy_is3 this) (ha1 : sy_is0 a1) (σ : St) : Cok sy_cu yX3_play cX3_play 5 none 2 [.ref this, .ref a1] σ (m3_play this a1 σ) := by
  refine cok_of (own := RX3) (by decide) rfl (fun ad => Nat.le_of_ble_eq_true rfl) (fun κ hκ => ?_)
  show Ab sy_cu κ 0 [sy_vr this, sy_vr a1, none, none, none] [] σ (m3_play this a1 σ)
  unfold m3_play
  refine ab_aload_n hκ dX3_play_0 rfl ?_
  refine ab_aload_n hκ dX3_play_1 rfl ?_
  refine ab_cVv (vs := [.ref a1]) (st := []) hκ dX3_play_2 kl_RX3_36 ki_X3_clear kv_X3_clear (sy_o3 hthis) rfl rfl (m3_clear_ok this a1 hthis ha1 σ) rfl (by decide) (Nat.le_of_ble_eq_true rfl) rfl (fun _ σ1 => ?_)
  refine ab_aload_n hκ dX3_play_5 rfl ?_
  refine ab_aload_n hκ dX3_play_6 rfl ?_
  refine ab_cVv (vs := [.ref a1]) (st := []) hκ dX3_play_7 kl_RX3_40 ki_X3_gatherEvents kv_X3_gatherEvents (sy_o3 hthis) rfl rfl (m3_gatherEvents_ok this a1 hthis ha1 σ1) rfl (by decide) (Nat.le_of_ble_eq_true rfl) rfl (fun _ σ2 => ?_)
  refine ab_iconst (v := 0) hκ dX3_play_10 rfl ?_
  refine ab_istore_n (lv' := [sy_vr this, sy_vr a1, sy_vi 0, none, none]) hκ dX3_play_11 rfl (by decide) rfl ?_
  refine m3_play_L12_ok hκ this a1 hthis ha1 ?_ _ _ _
  · intro  σ30
    exact ab_vret hκ dX3_play_155
-- BreathBand.runAsTold()LBreathBand$Run;, depth 3
def m6_runAsTold (σ : St) : Option (Nat × St) := if (σ 0 14) = 0 then (sy_bd (m3_play 25 5 σ) (fun _ σ1 => sy_zg 1 (sy_lt (sy_sf σ1 0 14 1) (fun σ2 => some (25, σ2))))) else (some (25, σ))
set_option maxRecDepth 100000 in
set_option maxHeartbeats 4000000 in
theorem m6_runAsTold_ok (σ : St) : Cok sy_vr yX6_runAsTold cX6_runAsTold 1 (some (.object "BreathBand$Run")) 3 [.ref 0] σ (m6_runAsTold σ) := by
  refine cok_of (own := RX6) (by decide) rfl (fun ad => Nat.le_of_ble_eq_true rfl) (fun κ hκ => ?_)
  show Ab sy_vr κ 0 [sy_vr 0] [] σ (m6_runAsTold σ)
  unfold m6_runAsTold
  refine ab_aload_n hκ dX6_runAsTold_0 rfl ?_
  refine ab_getf (v := .int (σ 0 14)) hκ (sy_o6 rfl) kf_RX6_77 rfl dX6_runAsTold_1 rfl ?_
  refine ab_if_ne (tgt := 23) hκ dX6_runAsTold_4 rfl ?_ ?_
  · refine ab_aload_n hκ dX6_runAsTold_23 rfl ?_
    refine ab_getf (v := .ref 25) hκ (sy_o6 rfl) kf_RX6_34 rfl dX6_runAsTold_24 rfl ?_
    exact ab_aret hκ dX6_runAsTold_27
  · refine ab_aload_n hκ dX6_runAsTold_7 rfl ?_
    refine ab_getf (v := .ref 25) hκ (sy_o6 rfl) kf_RX6_34 rfl dX6_runAsTold_8 rfl ?_
    refine ab_aload_n hκ dX6_runAsTold_11 rfl ?_
    refine ab_getf (v := .ref 5) hκ (sy_o6 rfl) kf_RX6_24 rfl dX6_runAsTold_12 rfl ?_
    refine ab_cVv (vs := [.ref 5]) (st := []) hκ dX6_runAsTold_15 kl_RX6_265 ki_X3_play kv_X3_play (sy_o3 (Or.inl rfl)) rfl rfl (m3_play_ok 25 5 (Or.inl rfl) (Or.inl rfl) σ) rfl (by decide) (Nat.le_of_ble_eq_true rfl) rfl (fun _ σ1 => ?_)
    refine ab_aload_n hκ dX6_runAsTold_18 rfl ?_
    refine ab_iconst (v := 1) hκ dX6_runAsTold_19 rfl ?_
    refine ab_putz hκ (sy_o6 rfl) kp_RX6_77 rfl dX6_runAsTold_20 ?_
    refine ab_lts (fun σ2 => ?_)
    refine ab_aload_n hκ dX6_runAsTold_23 rfl ?_
    refine ab_getf (v := .ref 25) hκ (sy_o6 rfl) kf_RX6_34 rfl dX6_runAsTold_24 rfl ?_
    exact ab_aret hκ dX6_runAsTold_27
-- BreathBand.at(II)I, depth 4
def m6_at (a1 : Int32) (a2 : Int32) (σ : St) : Option (Int32 × St) := sy_bd (m6_within a1 0 23 σ) (fun r2 σ1 => if r2 = 0 then (some ((-2), σ1)) else (sy_bd (m6_within a2 0 2 σ1) (fun r4 σ3 => if r4 = 0 then (some ((-2), σ3)) else (sy_bd (m6_runAsTold σ3) (fun r6 σ5 => if sy_is3 r6 then (if a2 = 0 then (sy_gd a1 24 (some ((σ5 (r6 + 1) (sy_ix a1)), σ5))) else (if a2 = 1 then (sy_gd a1 24 (some ((σ5 (r6 + 2) (sy_ix a1)), σ5))) else (sy_gd a1 24 (some ((σ5 (r6 + 3) (sy_ix a1)), σ5))))) else none)))))
set_option maxRecDepth 100000 in
set_option maxHeartbeats 4000000 in
theorem m6_at_ok (a1 : Int32) (a2 : Int32) (σ : St) : Cok sy_vi yX6_at cX6_at 4 (some .int) 4 [.ref 0, .int a1, .int a2] σ (m6_at a1 a2 σ) := by
  refine cok_of (own := RX6) (by decide) rfl (fun ad => Nat.le_of_ble_eq_true rfl) (fun κ hκ => ?_)
  show Ab sy_vi κ 0 [sy_vr 0, sy_vi a1, sy_vi a2, none] [] σ (m6_at a1 a2 σ)
  unfold m6_at
  refine ab_iload_n hκ dX6_at_0 rfl ?_
  refine ab_iconst (v := 0) hκ dX6_at_1 rfl ?_
  refine ab_bipush (v := 23) hκ dX6_at_2 rfl ?_
  refine ab_cSi (vs := [.int a1, .int 0, .int 23]) (st := []) hκ dX6_at_4 kl_RX6_89 ki_X6_within kv_X6_within (m6_within_ok a1 0 23 σ) rfl (by decide) (Nat.le_of_ble_eq_true rfl) rfl (fun r2 σ1 => ?_)
  refine ab_if_eq (tgt := 19) hκ dX6_at_7 rfl ?_ ?_
  · refine ab_bipush (v := (-2)) hκ dX6_at_19 rfl ?_
    exact ab_iret hκ dX6_at_21
  · refine ab_iload_n hκ dX6_at_10 rfl ?_
    refine ab_iconst (v := 0) hκ dX6_at_11 rfl ?_
    refine ab_iconst (v := 2) hκ dX6_at_12 rfl ?_
    refine ab_cSi (vs := [.int a2, .int 0, .int 2]) (st := []) hκ dX6_at_13 kl_RX6_89 ki_X6_within kv_X6_within (m6_within_ok a2 0 2 σ1) rfl (by decide) (Nat.le_of_ble_eq_true rfl) rfl (fun r4 σ3 => ?_)
    refine ab_if_ne (tgt := 22) hκ dX6_at_16 rfl ?_ ?_
    · refine ab_aload_n hκ dX6_at_22 rfl ?_
      refine ab_cVr (vs := []) (st := []) hκ dX6_at_23 kl_RX6_156 ki_X6_runAsTold kv_X6_runAsTold (sy_o6 rfl) rfl rfl (m6_runAsTold_ok σ3) rfl (by decide) (Nat.le_of_ble_eq_true rfl) rfl (fun r6 σ5 => ?_)
      refine ab_if (fun h7 => ?_) (fun _ => ab_none)
      refine ab_astore_n (lv' := [sy_vr 0, sy_vi a1, sy_vi a2, sy_vr r6]) hκ dX6_at_26 rfl (by decide) rfl ?_
      refine ab_iload_n hκ dX6_at_27 rfl ?_
      refine ab_if_ne (tgt := 38) hκ dX6_at_28 rfl ?_ ?_
      · refine ab_iload_n hκ dX6_at_38 rfl ?_
        refine ab_iconst (v := 1) hκ dX6_at_39 rfl ?_
        refine ab_icmp_ne (tgt := 52) hκ dX6_at_40 rfl ?_ ?_
        · refine ab_aload_n hκ dX6_at_52 rfl ?_
          refine ab_getf (v := .ref (r6 + 3)) hκ (sy_o3 h7) kf_RX6_166 rfl dX6_at_53 rfl ?_
          refine ab_iload_n hκ dX6_at_56 rfl ?_
          refine ab_iald hκ (sy_a3_2 h7) dX6_at_57 ?_
          exact ab_iret hκ dX6_at_58
        · refine ab_aload_n hκ dX6_at_43 rfl ?_
          refine ab_getf (v := .ref (r6 + 2)) hκ (sy_o3 h7) kf_RX6_163 rfl dX6_at_44 rfl ?_
          refine ab_iload_n hκ dX6_at_47 rfl ?_
          refine ab_iald hκ (sy_a3_1 h7) dX6_at_48 ?_
          refine ab_goto (tgt := 58) hκ dX6_at_49 rfl ?_
          exact ab_iret hκ dX6_at_58
      · refine ab_aload_n hκ dX6_at_31 rfl ?_
        refine ab_getf (v := .ref (r6 + 1)) hκ (sy_o3 h7) kf_RX6_160 rfl dX6_at_32 rfl ?_
        refine ab_iload_n hκ dX6_at_35 rfl ?_
        refine ab_iald hκ (sy_a3_0 h7) dX6_at_36 ?_
        exact ab_iret hκ dX6_at_37
    · refine ab_bipush (v := (-2)) hκ dX6_at_19 rfl ?_
      exact ab_iret hκ dX6_at_21
-- BreathBand.isNote(I)Z, depth 1
def m6_isNote (a1 : Int32) (σ : St) : Option (Int32 × St) := sy_bd (m6_within a1 0 ((σ 5 5) - 1) σ) (fun r2 σ1 => sy_zg r2 (some (r2, σ1)))
set_option maxRecDepth 100000 in
set_option maxHeartbeats 4000000 in
theorem m6_isNote_ok (a1 : Int32) (σ : St) : Cok sy_vi yX6_isNote cX6_isNote 2 (some .boolean) 1 [.ref 0, .int a1] σ (m6_isNote a1 σ) := by
  refine cok_of (own := RX6) (by decide) rfl (fun ad => Nat.le_of_ble_eq_true rfl) (fun κ hκ => ?_)
  show Ab sy_vi κ 0 [sy_vr 0, sy_vi a1] [] σ (m6_isNote a1 σ)
  unfold m6_isNote
  refine ab_iload_n hκ dX6_isNote_0 rfl ?_
  refine ab_iconst (v := 0) hκ dX6_isNote_1 rfl ?_
  refine ab_aload_n hκ dX6_isNote_2 rfl ?_
  refine ab_getf (v := .ref 5) hκ (sy_o6 rfl) kf_RX6_24 rfl dX6_isNote_3 rfl ?_
  refine ab_getf (v := .int (σ 5 5)) hκ (sy_o0 (Or.inl rfl)) kf_RX6_120 rfl dX6_isNote_6 rfl ?_
  refine ab_iconst (v := 1) hκ dX6_isNote_9 rfl ?_
  refine ab_isub hκ dX6_isNote_10 ?_
  refine ab_cSi (vs := [.int a1, .int 0, .int ((σ 5 5) - 1)]) (st := []) hκ dX6_isNote_11 kl_RX6_89 ki_X6_within kv_X6_within (m6_within_ok a1 0 ((σ 5 5) - 1) σ) rfl (by decide) (Nat.le_of_ble_eq_true rfl) rfl (fun r2 σ1 => ?_)
  exact ab_zret hκ dX6_isNote_14
-- BreathBand.heard(I)I, depth 4
def m6_heard (a1 : Int32) (σ : St) : Option (Int32 × St) := sy_bd (m6_isNote a1 σ) (fun r2 σ1 => if r2 = 0 then (some ((-2), σ1)) else (sy_bd (m6_runAsTold σ1) (fun r4 σ3 => if sy_is3 r4 then (sy_gd a1 16 (some ((σ3 (r4 + 4) (sy_ix a1)), σ3))) else none)))
set_option maxRecDepth 100000 in
set_option maxHeartbeats 4000000 in
theorem m6_heard_ok (a1 : Int32) (σ : St) : Cok sy_vi yX6_heard cX6_heard 2 (some .int) 4 [.ref 0, .int a1] σ (m6_heard a1 σ) := by
  refine cok_of (own := RX6) (by decide) rfl (fun ad => Nat.le_of_ble_eq_true rfl) (fun κ hκ => ?_)
  show Ab sy_vi κ 0 [sy_vr 0, sy_vi a1] [] σ (m6_heard a1 σ)
  unfold m6_heard
  refine ab_aload_n hκ dX6_heard_0 rfl ?_
  refine ab_iload_n hκ dX6_heard_1 rfl ?_
  refine ab_cVi (vs := [.int a1]) (st := []) hκ dX6_heard_2 kl_RX6_169 ki_X6_isNote kv_X6_isNote (sy_o6 rfl) rfl rfl (m6_isNote_ok a1 σ) rfl (by decide) (Nat.le_of_ble_eq_true rfl) rfl (fun r2 σ1 => ?_)
  refine ab_if_ne (tgt := 11) hκ dX6_heard_5 rfl ?_ ?_
  · refine ab_aload_n hκ dX6_heard_11 rfl ?_
    refine ab_cVr (vs := []) (st := []) hκ dX6_heard_12 kl_RX6_156 ki_X6_runAsTold kv_X6_runAsTold (sy_o6 rfl) rfl rfl (m6_runAsTold_ok σ1) rfl (by decide) (Nat.le_of_ble_eq_true rfl) rfl (fun r4 σ3 => ?_)
    refine ab_if (fun h5 => ?_) (fun _ => ab_none)
    refine ab_getf (v := .ref (r4 + 4)) hκ (sy_o3 h5) kf_RX6_172 rfl dX6_heard_15 rfl ?_
    refine ab_iload_n hκ dX6_heard_18 rfl ?_
    refine ab_iald hκ (sy_a3_3 h5) dX6_heard_19 ?_
    exact ab_iret hκ dX6_heard_20
  · refine ab_bipush (v := (-2)) hκ dX6_heard_8 rfl ?_
    exact ab_iret hκ dX6_heard_10
-- BreathBand.takes(II)I, depth 4
def m6_takes (a1 : Int32) (a2 : Int32) (σ : St) : Option (Int32 × St) := sy_bd (m6_isPlayer a1 σ) (fun r2 σ1 => if r2 = 0 then (some ((-2), σ1)) else (sy_bd (m6_within a2 0 2 σ1) (fun r4 σ3 => if r4 = 0 then (some ((-2), σ3)) else (sy_bd (m6_runAsTold σ3) (fun r6 σ5 => if sy_is3 r6 then (if a2 = 0 then (sy_gd a1 11 (some ((σ5 (r6 + 5) (sy_ix a1)), σ5))) else (if a2 = 1 then (sy_gd a1 11 (some ((σ5 (r6 + 6) (sy_ix a1)), σ5))) else (sy_gd a1 11 (some ((σ5 (r6 + 7) (sy_ix a1)), σ5))))) else none)))))
set_option maxRecDepth 100000 in
set_option maxHeartbeats 4000000 in
theorem m6_takes_ok (a1 : Int32) (a2 : Int32) (σ : St) : Cok sy_vi yX6_takes cX6_takes 4 (some .int) 4 [.ref 0, .int a1, .int a2] σ (m6_takes a1 a2 σ) := by
  refine cok_of (own := RX6) (by decide) rfl (fun ad => Nat.le_of_ble_eq_true rfl) (fun κ hκ => ?_)
  show Ab sy_vi κ 0 [sy_vr 0, sy_vi a1, sy_vi a2, none] [] σ (m6_takes a1 a2 σ)
  unfold m6_takes
  refine ab_aload_n hκ dX6_takes_0 rfl ?_
  refine ab_iload_n hκ dX6_takes_1 rfl ?_
  refine ab_cVi (vs := [.int a1]) (st := []) hκ dX6_takes_2 kl_RX6_111 ki_X6_isPlayer kv_X6_isPlayer (sy_o6 rfl) rfl rfl (m6_isPlayer_ok a1 σ) rfl (by decide) (Nat.le_of_ble_eq_true rfl) rfl (fun r2 σ1 => ?_)
  refine ab_if_eq (tgt := 17) hκ dX6_takes_5 rfl ?_ ?_
  · refine ab_bipush (v := (-2)) hκ dX6_takes_17 rfl ?_
    exact ab_iret hκ dX6_takes_19
  · refine ab_iload_n hκ dX6_takes_8 rfl ?_
    refine ab_iconst (v := 0) hκ dX6_takes_9 rfl ?_
    refine ab_iconst (v := 2) hκ dX6_takes_10 rfl ?_
    refine ab_cSi (vs := [.int a2, .int 0, .int 2]) (st := []) hκ dX6_takes_11 kl_RX6_89 ki_X6_within kv_X6_within (m6_within_ok a2 0 2 σ1) rfl (by decide) (Nat.le_of_ble_eq_true rfl) rfl (fun r4 σ3 => ?_)
    refine ab_if_ne (tgt := 20) hκ dX6_takes_14 rfl ?_ ?_
    · refine ab_aload_n hκ dX6_takes_20 rfl ?_
      refine ab_cVr (vs := []) (st := []) hκ dX6_takes_21 kl_RX6_156 ki_X6_runAsTold kv_X6_runAsTold (sy_o6 rfl) rfl rfl (m6_runAsTold_ok σ3) rfl (by decide) (Nat.le_of_ble_eq_true rfl) rfl (fun r6 σ5 => ?_)
      refine ab_if (fun h7 => ?_) (fun _ => ab_none)
      refine ab_astore_n (lv' := [sy_vr 0, sy_vi a1, sy_vi a2, sy_vr r6]) hκ dX6_takes_24 rfl (by decide) rfl ?_
      refine ab_iload_n hκ dX6_takes_25 rfl ?_
      refine ab_if_ne (tgt := 36) hκ dX6_takes_26 rfl ?_ ?_
      · refine ab_iload_n hκ dX6_takes_36 rfl ?_
        refine ab_iconst (v := 1) hκ dX6_takes_37 rfl ?_
        refine ab_icmp_ne (tgt := 50) hκ dX6_takes_38 rfl ?_ ?_
        · refine ab_aload_n hκ dX6_takes_50 rfl ?_
          refine ab_getf (v := .ref (r6 + 7)) hκ (sy_o3 h7) kf_RX6_181 rfl dX6_takes_51 rfl ?_
          refine ab_iload_n hκ dX6_takes_54 rfl ?_
          refine ab_iald hκ (sy_a3_6 h7) dX6_takes_55 ?_
          exact ab_iret hκ dX6_takes_56
        · refine ab_aload_n hκ dX6_takes_41 rfl ?_
          refine ab_getf (v := .ref (r6 + 6)) hκ (sy_o3 h7) kf_RX6_178 rfl dX6_takes_42 rfl ?_
          refine ab_iload_n hκ dX6_takes_45 rfl ?_
          refine ab_iald hκ (sy_a3_5 h7) dX6_takes_46 ?_
          refine ab_goto (tgt := 56) hκ dX6_takes_47 rfl ?_
          exact ab_iret hκ dX6_takes_56
      · refine ab_aload_n hκ dX6_takes_29 rfl ?_
        refine ab_getf (v := .ref (r6 + 5)) hκ (sy_o3 h7) kf_RX6_175 rfl dX6_takes_30 rfl ?_
        refine ab_iload_n hκ dX6_takes_33 rfl ?_
        refine ab_iald hκ (sy_a3_4 h7) dX6_takes_34 ?_
        exact ab_iret hκ dX6_takes_35
    · refine ab_bipush (v := (-2)) hκ dX6_takes_17 rfl ?_
      exact ab_iret hκ dX6_takes_19
-- BreathBand.sum(I)I, depth 4
def m6_sum (a1 : Int32) (σ : St) : Option (Int32 × St) := sy_bd (m6_within a1 0 2 σ) (fun r2 σ1 => if r2 = 0 then (some ((-2), σ1)) else (sy_bd (m6_runAsTold σ1) (fun r4 σ3 => if sy_is3 r4 then (if a1 = 0 then (some ((σ3 r4 7), σ3)) else (if a1 = 1 then (some ((σ3 r4 10), σ3)) else (some ((σ3 r4 11), σ3)))) else none)))
set_option maxRecDepth 100000 in
set_option maxHeartbeats 4000000 in
theorem m6_sum_ok (a1 : Int32) (σ : St) : Cok sy_vi yX6_sum cX6_sum 3 (some .int) 4 [.ref 0, .int a1] σ (m6_sum a1 σ) := by
  refine cok_of (own := RX6) (by decide) rfl (fun ad => Nat.le_of_ble_eq_true rfl) (fun κ hκ => ?_)
  show Ab sy_vi κ 0 [sy_vr 0, sy_vi a1, none] [] σ (m6_sum a1 σ)
  unfold m6_sum
  refine ab_iload_n hκ dX6_sum_0 rfl ?_
  refine ab_iconst (v := 0) hκ dX6_sum_1 rfl ?_
  refine ab_iconst (v := 2) hκ dX6_sum_2 rfl ?_
  refine ab_cSi (vs := [.int a1, .int 0, .int 2]) (st := []) hκ dX6_sum_3 kl_RX6_89 ki_X6_within kv_X6_within (m6_within_ok a1 0 2 σ) rfl (by decide) (Nat.le_of_ble_eq_true rfl) rfl (fun r2 σ1 => ?_)
  refine ab_if_ne (tgt := 12) hκ dX6_sum_6 rfl ?_ ?_
  · refine ab_aload_n hκ dX6_sum_12 rfl ?_
    refine ab_cVr (vs := []) (st := []) hκ dX6_sum_13 kl_RX6_156 ki_X6_runAsTold kv_X6_runAsTold (sy_o6 rfl) rfl rfl (m6_runAsTold_ok σ1) rfl (by decide) (Nat.le_of_ble_eq_true rfl) rfl (fun r4 σ3 => ?_)
    refine ab_if (fun h5 => ?_) (fun _ => ab_none)
    refine ab_astore_n (lv' := [sy_vr 0, sy_vi a1, sy_vr r4]) hκ dX6_sum_16 rfl (by decide) rfl ?_
    refine ab_iload_n hκ dX6_sum_17 rfl ?_
    refine ab_if_ne (tgt := 26) hκ dX6_sum_18 rfl ?_ ?_
    · refine ab_iload_n hκ dX6_sum_26 rfl ?_
      refine ab_iconst (v := 1) hκ dX6_sum_27 rfl ?_
      refine ab_icmp_ne (tgt := 38) hκ dX6_sum_28 rfl ?_ ?_
      · refine ab_aload_n hκ dX6_sum_38 rfl ?_
        refine ab_getf (v := .int (σ3 r4 11)) hκ (sy_o3 h5) kf_RX6_190 rfl dX6_sum_39 rfl ?_
        exact ab_iret hκ dX6_sum_42
      · refine ab_aload_n hκ dX6_sum_31 rfl ?_
        refine ab_getf (v := .int (σ3 r4 10)) hκ (sy_o3 h5) kf_RX6_187 rfl dX6_sum_32 rfl ?_
        refine ab_goto (tgt := 42) hκ dX6_sum_35 rfl ?_
        exact ab_iret hκ dX6_sum_42
    · refine ab_aload_n hκ dX6_sum_21 rfl ?_
      refine ab_getf (v := .int (σ3 r4 7)) hκ (sy_o3 h5) kf_RX6_184 rfl dX6_sum_22 rfl ?_
      exact ab_iret hκ dX6_sum_25
  · refine ab_bipush (v := (-2)) hκ dX6_sum_9 rfl ?_
    exact ab_iret hκ dX6_sum_11
-- BreathBand.flat()I, depth 4
def m6_flat_L7b (c4 : Nat) (K7 : Int32 → St → Option (Int32 × St)) (E7_22 : Int32 → St → Option (Int32 × St)) (x6 : Int32) (σ : St) : Option (Int32 × St) := if 24 ≤ x6 then (some ((-1), σ)) else (sy_gd x6 24 (if (σ (c4 + 2) (sy_ix x6)) = 0 then (E7_22 x6 σ) else (K7 (x6 + 1) σ)))
def m6_flat_L7 (c4 : Nat) (E7_22 : Int32 → St → Option (Int32 × St)) : Nat → Int32 → St → Option (Int32 × St)
  | 0 => fun _ _ => none
  | n + 1 => m6_flat_L7b c4 (m6_flat_L7 c4 E7_22 n) E7_22
set_option maxRecDepth 100000 in
set_option maxHeartbeats 4000000 in
theorem m6_flat_L7b_ok {κ : Kx} (hκ : Gd κ cX6_flat 3 RX6 (some .int) 4) (c4 : Nat) (h5 : sy_is3 c4) {K7 : Int32 → St → Option (Int32 × St)} (hK7 : ∀ (x6 : Int32) (σ : St), Ab sy_vi κ 7 [none, sy_vr c4, sy_vi x6] [] σ (K7 x6 σ)) {E7_22 : Int32 → St → Option (Int32 × St)} (hE7_22 : ∀ (y2 : Int32) (σ : St), Ab sy_vi κ 22 [none, none, sy_vi y2] [] σ (E7_22 y2 σ)) (x6 : Int32) (σ : St) : Ab sy_vi κ 7 [none, sy_vr c4, sy_vi x6] [] σ (m6_flat_L7b c4 K7 E7_22 x6 σ) := by
  unfold m6_flat_L7b
  refine ab_iload_n hκ dX6_flat_7 rfl ?_
  refine ab_bipush (v := 24) hκ dX6_flat_8 rfl ?_
  refine ab_icmp_ge (tgt := 30) hκ dX6_flat_10 rfl ?_ ?_
  · refine ab_iconst (v := (-1)) hκ dX6_flat_30 rfl ?_
    exact ab_iret hκ dX6_flat_31
  · refine ab_aload_n hκ dX6_flat_13 rfl ?_
    refine ab_getf (v := .ref (c4 + 2)) hκ (sy_o3 h5) kf_RX6_163 rfl dX6_flat_14 rfl ?_
    refine ab_iload_n hκ dX6_flat_17 rfl ?_
    refine ab_iald hκ (sy_a3_1 h5) dX6_flat_18 ?_
    refine ab_if_ne (tgt := 24) hκ dX6_flat_19 rfl ?_ ?_
    · refine ab_iinc (v := (x6 + 1)) (lv' := [none, sy_vr c4, sy_vi (x6 + 1)]) hκ dX6_flat_24 rfl rfl (by decide) rfl ?_
      refine ab_goto (tgt := 7) hκ dX6_flat_27 rfl ?_
      exact hK7 (x6 + 1) σ
    · refine ab_fg (lv' := [none, none, sy_vi x6]) [1] rfl ?_
      exact hE7_22 x6 σ
theorem m6_flat_L7_ok {κ : Kx} (hκ : Gd κ cX6_flat 3 RX6 (some .int) 4) (c4 : Nat) (h5 : sy_is3 c4) {E7_22 : Int32 → St → Option (Int32 × St)} (hE7_22 : ∀ (y2 : Int32) (σ : St), Ab sy_vi κ 22 [none, none, sy_vi y2] [] σ (E7_22 y2 σ)) : ∀ (n : Nat) (x6 : Int32) (σ : St), Ab sy_vi κ 7 [none, sy_vr c4, sy_vi x6] [] σ (m6_flat_L7 c4 E7_22 n x6 σ) := by
  intro n
  induction n with
  | zero => intros; exact ab_none
  | succ n ih => exact fun x6 σ => m6_flat_L7b_ok hκ c4 h5 ih hE7_22 x6 σ
def m6_flat (σ : St) : Option (Int32 × St) := sy_bd (m6_runAsTold σ) (fun r2 σ1 => if sy_is3 r2 then (m6_flat_L7 r2 (fun y7 σ8 => some (y7, σ8)) sy_FU 0 σ1) else none)
set_option maxRecDepth 100000 in
set_option maxHeartbeats 4000000 in
theorem m6_flat_ok (σ : St) : Cok sy_vi yX6_flat cX6_flat 3 (some .int) 4 [.ref 0] σ (m6_flat σ) := by
  refine cok_of (own := RX6) (by decide) rfl (fun ad => Nat.le_of_ble_eq_true rfl) (fun κ hκ => ?_)
  show Ab sy_vi κ 0 [sy_vr 0, none, none] [] σ (m6_flat σ)
  unfold m6_flat
  refine ab_aload_n hκ dX6_flat_0 rfl ?_
  refine ab_cVr (vs := []) (st := []) hκ dX6_flat_1 kl_RX6_156 ki_X6_runAsTold kv_X6_runAsTold (sy_o6 rfl) rfl rfl (m6_runAsTold_ok σ) rfl (by decide) (Nat.le_of_ble_eq_true rfl) rfl (fun r2 σ1 => ?_)
  refine ab_if (fun h3 => ?_) (fun _ => ab_none)
  refine ab_astore_n (lv' := [sy_vr 0, sy_vr r2, none]) hκ dX6_flat_4 rfl (by decide) rfl ?_
  refine ab_iconst (v := 0) hκ dX6_flat_5 rfl ?_
  refine ab_istore_n (lv' := [sy_vr 0, sy_vr r2, sy_vi 0]) hκ dX6_flat_6 rfl (by decide) rfl ?_
  refine ab_fg (lv' := [none, sy_vr r2, sy_vi 0]) [0] rfl ?_
  refine m6_flat_L7_ok hκ r2 h3 ?_ _ _ _
  · intro y7 σ8
    refine ab_iload_n hκ dX6_flat_22 rfl ?_
    exact ab_iret hκ dX6_flat_23
-- BreathBand.silent()I, depth 4
def m6_silent_L9b (c4 : Nat) (K9 : Int32 → Int32 → St → Option (Int32 × St)) (E9_41 : Int32 → St → Option (Int32 × St)) (x6 : Int32) (x7 : Int32) (σ : St) : Option (Int32 × St) := if (σ 5 0) ≤ x7 then (E9_41 x6 σ) else (sy_gd x7 11 (if (σ (c4 + 5) (sy_ix x7)) = 0 then (sy_lt (x6 ||| (1 <<< (x7 &&& 31))) (fun v8 => K9 v8 (x7 + 1) σ)) else (K9 x6 (x7 + 1) σ)))
def m6_silent_L9 (c4 : Nat) (E9_41 : Int32 → St → Option (Int32 × St)) : Nat → Int32 → Int32 → St → Option (Int32 × St)
  | 0 => fun _ _ _ => none
  | n + 1 => m6_silent_L9b c4 (m6_silent_L9 c4 E9_41 n) E9_41
set_option maxRecDepth 100000 in
set_option maxHeartbeats 4000000 in
theorem m6_silent_L9b_ok {κ : Kx} (hκ : Gd κ cX6_silent 4 RX6 (some .int) 4) (c4 : Nat) (h5 : sy_is3 c4) {K9 : Int32 → Int32 → St → Option (Int32 × St)} (hK9 : ∀ (x6 : Int32) (x7 : Int32) (σ : St), Ab sy_vi κ 9 [sy_vr 0, sy_vr c4, sy_vi x6, sy_vi x7] [] σ (K9 x6 x7 σ)) {E9_41 : Int32 → St → Option (Int32 × St)} (hE9_41 : ∀ (y2 : Int32) (σ : St), Ab sy_vi κ 41 [none, none, sy_vi y2, none] [] σ (E9_41 y2 σ)) (x6 : Int32) (x7 : Int32) (σ : St) : Ab sy_vi κ 9 [sy_vr 0, sy_vr c4, sy_vi x6, sy_vi x7] [] σ (m6_silent_L9b c4 K9 E9_41 x6 x7 σ) := by
  unfold m6_silent_L9b
  refine ab_iload_n hκ dX6_silent_9 rfl ?_
  refine ab_aload_n hκ dX6_silent_10 rfl ?_
  refine ab_getf (v := .ref 5) hκ (sy_o6 rfl) kf_RX6_24 rfl dX6_silent_11 rfl ?_
  refine ab_getf (v := .int (σ 5 0)) hκ (sy_o0 (Or.inl rfl)) kf_RX6_193 rfl dX6_silent_14 rfl ?_
  refine ab_icmp_ge (tgt := 41) hκ dX6_silent_17 rfl ?_ ?_
  · refine ab_fg (lv' := [none, none, sy_vi x6, none]) [0, 1, 3] rfl ?_
    exact hE9_41 x6 σ
  · refine ab_aload_n hκ dX6_silent_20 rfl ?_
    refine ab_getf (v := .ref (c4 + 5)) hκ (sy_o3 h5) kf_RX6_175 rfl dX6_silent_21 rfl ?_
    refine ab_iload_n hκ dX6_silent_24 rfl ?_
    refine ab_iald hκ (sy_a3_4 h5) dX6_silent_25 ?_
    refine ab_if_ne (tgt := 35) hκ dX6_silent_26 rfl ?_ ?_
    · refine ab_iinc (v := (x7 + 1)) (lv' := [sy_vr 0, sy_vr c4, sy_vi x6, sy_vi (x7 + 1)]) hκ dX6_silent_35 rfl rfl (by decide) rfl ?_
      refine ab_goto (tgt := 9) hκ dX6_silent_38 rfl ?_
      exact hK9 x6 (x7 + 1) σ
    · refine ab_iload_n hκ dX6_silent_29 rfl ?_
      refine ab_iconst (v := 1) hκ dX6_silent_30 rfl ?_
      refine ab_iload_n hκ dX6_silent_31 rfl ?_
      refine ab_ishl hκ dX6_silent_32 ?_
      refine ab_ior hκ dX6_silent_33 ?_
      refine ab_lti (fun v8 => ?_)
      refine ab_istore_n (lv' := [sy_vr 0, sy_vr c4, sy_vi v8, sy_vi x7]) hκ dX6_silent_34 rfl (by decide) rfl ?_
      refine ab_iinc (v := (x7 + 1)) (lv' := [sy_vr 0, sy_vr c4, sy_vi v8, sy_vi (x7 + 1)]) hκ dX6_silent_35 rfl rfl (by decide) rfl ?_
      refine ab_goto (tgt := 9) hκ dX6_silent_38 rfl ?_
      exact hK9 v8 (x7 + 1) σ
theorem m6_silent_L9_ok {κ : Kx} (hκ : Gd κ cX6_silent 4 RX6 (some .int) 4) (c4 : Nat) (h5 : sy_is3 c4) {E9_41 : Int32 → St → Option (Int32 × St)} (hE9_41 : ∀ (y2 : Int32) (σ : St), Ab sy_vi κ 41 [none, none, sy_vi y2, none] [] σ (E9_41 y2 σ)) : ∀ (n : Nat) (x6 : Int32) (x7 : Int32) (σ : St), Ab sy_vi κ 9 [sy_vr 0, sy_vr c4, sy_vi x6, sy_vi x7] [] σ (m6_silent_L9 c4 E9_41 n x6 x7 σ) := by
  intro n
  induction n with
  | zero => intros; exact ab_none
  | succ n ih => exact fun x6 x7 σ => m6_silent_L9b_ok hκ c4 h5 ih hE9_41 x6 x7 σ
def m6_silent (σ : St) : Option (Int32 × St) := sy_bd (m6_runAsTold σ) (fun r2 σ1 => if sy_is3 r2 then (m6_silent_L9 r2 (fun y9 σ10 => some (y9, σ10)) sy_FU 0 0 σ1) else none)
set_option maxRecDepth 100000 in
set_option maxHeartbeats 4000000 in
theorem m6_silent_ok (σ : St) : Cok sy_vi yX6_silent cX6_silent 4 (some .int) 4 [.ref 0] σ (m6_silent σ) := by
  refine cok_of (own := RX6) (by decide) rfl (fun ad => Nat.le_of_ble_eq_true rfl) (fun κ hκ => ?_)
  show Ab sy_vi κ 0 [sy_vr 0, none, none, none] [] σ (m6_silent σ)
  unfold m6_silent
  refine ab_aload_n hκ dX6_silent_0 rfl ?_
  refine ab_cVr (vs := []) (st := []) hκ dX6_silent_1 kl_RX6_156 ki_X6_runAsTold kv_X6_runAsTold (sy_o6 rfl) rfl rfl (m6_runAsTold_ok σ) rfl (by decide) (Nat.le_of_ble_eq_true rfl) rfl (fun r2 σ1 => ?_)
  refine ab_if (fun h3 => ?_) (fun _ => ab_none)
  refine ab_astore_n (lv' := [sy_vr 0, sy_vr r2, none, none]) hκ dX6_silent_4 rfl (by decide) rfl ?_
  refine ab_iconst (v := 0) hκ dX6_silent_5 rfl ?_
  refine ab_istore_n (lv' := [sy_vr 0, sy_vr r2, sy_vi 0, none]) hκ dX6_silent_6 rfl (by decide) rfl ?_
  refine ab_iconst (v := 0) hκ dX6_silent_7 rfl ?_
  refine ab_istore_n (lv' := [sy_vr 0, sy_vr r2, sy_vi 0, sy_vi 0]) hκ dX6_silent_8 rfl (by decide) rfl ?_
  refine m6_silent_L9_ok hκ r2 h3 ?_ _ _ _ _
  · intro y9 σ10
    refine ab_iload_n hκ dX6_silent_41 rfl ?_
    exact ab_iret hκ dX6_silent_42
-- BreathBand.greedy()I, depth 4
def m6_greedy_L12b (c4 : Nat) (K12 : Int32 → Int32 → Int32 → St → Option (Int32 × St)) (E12_52 : Int32 → St → Option (Int32 × St)) (x6 : Int32) (x7 : Int32) (x8 : Int32) (σ : St) : Option (Int32 × St) := if (σ 5 0) ≤ x8 then (E12_52 x6 σ) else (sy_gd x8 11 (if (σ (c4 + 6) (sy_ix x8)) ≤ x7 then (K12 x6 x7 (x8 + 1) σ) else (sy_gd x8 11 (sy_lt (σ (c4 + 6) (sy_ix x8)) (fun v9 => K12 x8 v9 (x8 + 1) σ)))))
def m6_greedy_L12 (c4 : Nat) (E12_52 : Int32 → St → Option (Int32 × St)) : Nat → Int32 → Int32 → Int32 → St → Option (Int32 × St)
  | 0 => fun _ _ _ _ => none
  | n + 1 => m6_greedy_L12b c4 (m6_greedy_L12 c4 E12_52 n) E12_52
set_option maxRecDepth 100000 in
set_option maxHeartbeats 4000000 in
theorem m6_greedy_L12b_ok {κ : Kx} (hκ : Gd κ cX6_greedy 5 RX6 (some .int) 4) (c4 : Nat) (h5 : sy_is3 c4) {K12 : Int32 → Int32 → Int32 → St → Option (Int32 × St)} (hK12 : ∀ (x6 : Int32) (x7 : Int32) (x8 : Int32) (σ : St), Ab sy_vi κ 12 [sy_vr 0, sy_vr c4, sy_vi x6, sy_vi x7, sy_vi x8] [] σ (K12 x6 x7 x8 σ)) {E12_52 : Int32 → St → Option (Int32 × St)} (hE12_52 : ∀ (y2 : Int32) (σ : St), Ab sy_vi κ 52 [none, none, sy_vi y2, none, none] [] σ (E12_52 y2 σ)) (x6 : Int32) (x7 : Int32) (x8 : Int32) (σ : St) : Ab sy_vi κ 12 [sy_vr 0, sy_vr c4, sy_vi x6, sy_vi x7, sy_vi x8] [] σ (m6_greedy_L12b c4 K12 E12_52 x6 x7 x8 σ) := by
  unfold m6_greedy_L12b
  refine ab_iload hκ dX6_greedy_12 rfl ?_
  refine ab_aload_n hκ dX6_greedy_14 rfl ?_
  refine ab_getf (v := .ref 5) hκ (sy_o6 rfl) kf_RX6_24 rfl dX6_greedy_15 rfl ?_
  refine ab_getf (v := .int (σ 5 0)) hκ (sy_o0 (Or.inl rfl)) kf_RX6_193 rfl dX6_greedy_18 rfl ?_
  refine ab_icmp_ge (tgt := 52) hκ dX6_greedy_21 rfl ?_ ?_
  · refine ab_fg (lv' := [none, none, sy_vi x6, none, none]) [0, 1, 3, 4] rfl ?_
    exact hE12_52 x6 σ
  · refine ab_aload_n hκ dX6_greedy_24 rfl ?_
    refine ab_getf (v := .ref (c4 + 6)) hκ (sy_o3 h5) kf_RX6_178 rfl dX6_greedy_25 rfl ?_
    refine ab_iload hκ dX6_greedy_28 rfl ?_
    refine ab_iald hκ (sy_a3_5 h5) dX6_greedy_30 ?_
    refine ab_iload_n hκ dX6_greedy_31 rfl ?_
    refine ab_icmp_le (tgt := 46) hκ dX6_greedy_32 rfl ?_ ?_
    · refine ab_iinc (v := (x8 + 1)) (lv' := [sy_vr 0, sy_vr c4, sy_vi x6, sy_vi x7, sy_vi (x8 + 1)]) hκ dX6_greedy_46 rfl rfl (by decide) rfl ?_
      refine ab_goto (tgt := 12) hκ dX6_greedy_49 rfl ?_
      exact hK12 x6 x7 (x8 + 1) σ
    · refine ab_aload_n hκ dX6_greedy_35 rfl ?_
      refine ab_getf (v := .ref (c4 + 6)) hκ (sy_o3 h5) kf_RX6_178 rfl dX6_greedy_36 rfl ?_
      refine ab_iload hκ dX6_greedy_39 rfl ?_
      refine ab_iald hκ (sy_a3_5 h5) dX6_greedy_41 ?_
      refine ab_lti (fun v9 => ?_)
      refine ab_istore_n (lv' := [sy_vr 0, sy_vr c4, sy_vi x6, sy_vi v9, sy_vi x8]) hκ dX6_greedy_42 rfl (by decide) rfl ?_
      refine ab_iload hκ dX6_greedy_43 rfl ?_
      refine ab_istore_n (lv' := [sy_vr 0, sy_vr c4, sy_vi x8, sy_vi v9, sy_vi x8]) hκ dX6_greedy_45 rfl (by decide) rfl ?_
      refine ab_iinc (v := (x8 + 1)) (lv' := [sy_vr 0, sy_vr c4, sy_vi x8, sy_vi v9, sy_vi (x8 + 1)]) hκ dX6_greedy_46 rfl rfl (by decide) rfl ?_
      refine ab_goto (tgt := 12) hκ dX6_greedy_49 rfl ?_
      exact hK12 x8 v9 (x8 + 1) σ
theorem m6_greedy_L12_ok {κ : Kx} (hκ : Gd κ cX6_greedy 5 RX6 (some .int) 4) (c4 : Nat) (h5 : sy_is3 c4) {E12_52 : Int32 → St → Option (Int32 × St)} (hE12_52 : ∀ (y2 : Int32) (σ : St), Ab sy_vi κ 52 [none, none, sy_vi y2, none, none] [] σ (E12_52 y2 σ)) : ∀ (n : Nat) (x6 : Int32) (x7 : Int32) (x8 : Int32) (σ : St), Ab sy_vi κ 12 [sy_vr 0, sy_vr c4, sy_vi x6, sy_vi x7, sy_vi x8] [] σ (m6_greedy_L12 c4 E12_52 n x6 x7 x8 σ) := by
  intro n
  induction n with
  | zero => intros; exact ab_none
  | succ n ih => exact fun x6 x7 x8 σ => m6_greedy_L12b_ok hκ c4 h5 ih hE12_52 x6 x7 x8 σ
def m6_greedy (σ : St) : Option (Int32 × St) := sy_bd (m6_runAsTold σ) (fun r2 σ1 => if sy_is3 r2 then (m6_greedy_L12 r2 (fun y10 σ11 => some (y10, σ11)) sy_FU (-1) 0 0 σ1) else none)
set_option maxRecDepth 100000 in
set_option maxHeartbeats 4000000 in
theorem m6_greedy_ok (σ : St) : Cok sy_vi yX6_greedy cX6_greedy 5 (some .int) 4 [.ref 0] σ (m6_greedy σ) := by
  refine cok_of (own := RX6) (by decide) rfl (fun ad => Nat.le_of_ble_eq_true rfl) (fun κ hκ => ?_)
  show Ab sy_vi κ 0 [sy_vr 0, none, none, none, none] [] σ (m6_greedy σ)
  unfold m6_greedy
  refine ab_aload_n hκ dX6_greedy_0 rfl ?_
  refine ab_cVr (vs := []) (st := []) hκ dX6_greedy_1 kl_RX6_156 ki_X6_runAsTold kv_X6_runAsTold (sy_o6 rfl) rfl rfl (m6_runAsTold_ok σ) rfl (by decide) (Nat.le_of_ble_eq_true rfl) rfl (fun r2 σ1 => ?_)
  refine ab_if (fun h3 => ?_) (fun _ => ab_none)
  refine ab_astore_n (lv' := [sy_vr 0, sy_vr r2, none, none, none]) hκ dX6_greedy_4 rfl (by decide) rfl ?_
  refine ab_iconst (v := (-1)) hκ dX6_greedy_5 rfl ?_
  refine ab_istore_n (lv' := [sy_vr 0, sy_vr r2, sy_vi (-1), none, none]) hκ dX6_greedy_6 rfl (by decide) rfl ?_
  refine ab_iconst (v := 0) hκ dX6_greedy_7 rfl ?_
  refine ab_istore_n (lv' := [sy_vr 0, sy_vr r2, sy_vi (-1), sy_vi 0, none]) hκ dX6_greedy_8 rfl (by decide) rfl ?_
  refine ab_iconst (v := 0) hκ dX6_greedy_9 rfl ?_
  refine ab_istore (lv' := [sy_vr 0, sy_vr r2, sy_vi (-1), sy_vi 0, sy_vi 0]) hκ dX6_greedy_10 (by decide) rfl ?_
  refine m6_greedy_L12_ok hκ r2 h3 ?_ _ _ _ _ _
  · intro y10 σ11
    refine ab_iload_n hκ dX6_greedy_52 rfl ?_
    exact ab_iret hκ dX6_greedy_53
-- BreathBand$Band.become(LBreathBand$Band;)V, depth 1
def m0_become (this : Nat) (a1 : Nat) (σ : St) : Option (Unit × St) := sy_lt (sy_sf σ this 0 (σ a1 0)) (fun σ1 => sy_cg 0 0 11 11 11 (sy_lt (sy_cp σ1 (a1 + 1) 0 (this + 1) 0 11) (fun σ2 => sy_cg 0 0 11 11 11 (sy_lt (sy_cp σ2 (a1 + 2) 0 (this + 2) 0 11) (fun σ3 => sy_cg 0 0 11 11 11 (sy_lt (sy_cp σ3 (a1 + 3) 0 (this + 3) 0 11) (fun σ4 => sy_cg 0 0 11 11 11 (sy_lt (sy_cp σ4 (a1 + 4) 0 (this + 4) 0 11) (fun σ5 => sy_lt (sy_sf σ5 this 5 (σ5 a1 5)) (fun σ6 => sy_cg 0 0 16 16 16 (sy_lt (sy_cp σ6 (a1 + 5) 0 (this + 5) 0 16) (fun σ7 => sy_cg 0 0 16 16 16 (sy_lt (sy_cp σ7 (a1 + 6) 0 (this + 6) 0 16) (fun σ8 => sy_cg 0 0 24 24 24 (sy_lt (sy_cp σ8 (a1 + 7) 0 (this + 7) 0 24) (fun σ9 => sy_lt (sy_sf σ9 this 9 (σ9 a1 9)) (fun σ10 => sy_lt (sy_sf σ10 this 10 (σ10 a1 10)) (fun σ11 => sy_cg 0 0 8 8 8 (sy_lt (sy_cp σ11 (a1 + 8) 0 (this + 8) 0 8) (fun σ12 => sy_cg 0 0 8 8 8 (sy_lt (sy_cp σ12 (a1 + 9) 0 (this + 9) 0 8) (fun σ13 => sy_lt (sy_sf σ13 this 13 (σ13 a1 13)) (fun σ14 => sy_lt (sy_sf σ14 this 14 (σ14 a1 14)) (fun σ15 => some ((), σ15)))))))))))))))))))))))))
set_option maxRecDepth 100000 in
set_option maxHeartbeats 4000000 in
theorem m0_become_ok (this : Nat) (a1 : Nat) (hthis : sy_is0 this) (ha1 : sy_is0 a1) (σ : St) : Cok sy_cu yX0_become cX0_become 2 none 1 [.ref this, .ref a1] σ (m0_become this a1 σ) := by
  refine cok_of (own := RX0) (by decide) rfl (fun ad => Nat.le_of_ble_eq_true rfl) (fun κ hκ => ?_)
  show Ab sy_cu κ 0 [sy_vr this, sy_vr a1] [] σ (m0_become this a1 σ)
  unfold m0_become
  refine ab_aload_n hκ dX0_become_0 rfl ?_
  refine ab_aload_n hκ dX0_become_1 rfl ?_
  refine ab_getf (v := .int (σ a1 0)) hκ (sy_o0 ha1) kf_RX0_9 rfl dX0_become_2 rfl ?_
  refine ab_putf hκ (sy_o0 hthis) kp_RX0_9 rfl dX0_become_5 ?_
  refine ab_lts (fun σ1 => ?_)
  refine ab_aload_n hκ dX0_become_8 rfl ?_
  refine ab_getf (v := .ref (a1 + 1)) hκ (sy_o0 ha1) kf_RX0_15 rfl dX0_become_9 rfl ?_
  refine ab_iconst (v := 0) hκ dX0_become_12 rfl ?_
  refine ab_aload_n hκ dX0_become_13 rfl ?_
  refine ab_getf (v := .ref (this + 1)) hκ (sy_o0 hthis) kf_RX0_15 rfl dX0_become_14 rfl ?_
  refine ab_iconst (v := 0) hκ dX0_become_17 rfl ?_
  refine ab_bipush (v := 11) hκ dX0_become_18 rfl ?_
  refine ab_copy hκ (sy_a0_1 ha1) (sy_a0_1 hthis) dX0_become_20 kl_RX0_94 (by decide) (Nat.le_of_ble_eq_true rfl) ?_
  refine ab_lts (fun σ2 => ?_)
  refine ab_aload_n hκ dX0_become_23 rfl ?_
  refine ab_getf (v := .ref (a1 + 2)) hκ (sy_o0 ha1) kf_RX0_19 rfl dX0_become_24 rfl ?_
  refine ab_iconst (v := 0) hκ dX0_become_27 rfl ?_
  refine ab_aload_n hκ dX0_become_28 rfl ?_
  refine ab_getf (v := .ref (this + 2)) hκ (sy_o0 hthis) kf_RX0_19 rfl dX0_become_29 rfl ?_
  refine ab_iconst (v := 0) hκ dX0_become_32 rfl ?_
  refine ab_bipush (v := 11) hκ dX0_become_33 rfl ?_
  refine ab_copy hκ (sy_a0_2 ha1) (sy_a0_2 hthis) dX0_become_35 kl_RX0_94 (by decide) (Nat.le_of_ble_eq_true rfl) ?_
  refine ab_lts (fun σ3 => ?_)
  refine ab_aload_n hκ dX0_become_38 rfl ?_
  refine ab_getf (v := .ref (a1 + 3)) hκ (sy_o0 ha1) kf_RX0_22 rfl dX0_become_39 rfl ?_
  refine ab_iconst (v := 0) hκ dX0_become_42 rfl ?_
  refine ab_aload_n hκ dX0_become_43 rfl ?_
  refine ab_getf (v := .ref (this + 3)) hκ (sy_o0 hthis) kf_RX0_22 rfl dX0_become_44 rfl ?_
  refine ab_iconst (v := 0) hκ dX0_become_47 rfl ?_
  refine ab_bipush (v := 11) hκ dX0_become_48 rfl ?_
  refine ab_copy hκ (sy_a0_3 ha1) (sy_a0_3 hthis) dX0_become_50 kl_RX0_94 (by decide) (Nat.le_of_ble_eq_true rfl) ?_
  refine ab_lts (fun σ4 => ?_)
  refine ab_aload_n hκ dX0_become_53 rfl ?_
  refine ab_getf (v := .ref (a1 + 4)) hκ (sy_o0 ha1) kf_RX0_25 rfl dX0_become_54 rfl ?_
  refine ab_iconst (v := 0) hκ dX0_become_57 rfl ?_
  refine ab_aload_n hκ dX0_become_58 rfl ?_
  refine ab_getf (v := .ref (this + 4)) hκ (sy_o0 hthis) kf_RX0_25 rfl dX0_become_59 rfl ?_
  refine ab_iconst (v := 0) hκ dX0_become_62 rfl ?_
  refine ab_bipush (v := 11) hκ dX0_become_63 rfl ?_
  refine ab_copy hκ (sy_a0_4 ha1) (sy_a0_4 hthis) dX0_become_65 kl_RX0_94 (by decide) (Nat.le_of_ble_eq_true rfl) ?_
  refine ab_lts (fun σ5 => ?_)
  refine ab_aload_n hκ dX0_become_68 rfl ?_
  refine ab_aload_n hκ dX0_become_69 rfl ?_
  refine ab_getf (v := .int (σ5 a1 5)) hκ (sy_o0 ha1) kf_RX0_28 rfl dX0_become_70 rfl ?_
  refine ab_putf hκ (sy_o0 hthis) kp_RX0_28 rfl dX0_become_73 ?_
  refine ab_lts (fun σ6 => ?_)
  refine ab_aload_n hκ dX0_become_76 rfl ?_
  refine ab_getf (v := .ref (a1 + 5)) hκ (sy_o0 ha1) kf_RX0_31 rfl dX0_become_77 rfl ?_
  refine ab_iconst (v := 0) hκ dX0_become_80 rfl ?_
  refine ab_aload_n hκ dX0_become_81 rfl ?_
  refine ab_getf (v := .ref (this + 5)) hκ (sy_o0 hthis) kf_RX0_31 rfl dX0_become_82 rfl ?_
  refine ab_iconst (v := 0) hκ dX0_become_85 rfl ?_
  refine ab_bipush (v := 16) hκ dX0_become_86 rfl ?_
  refine ab_copy hκ (sy_a0_6 ha1) (sy_a0_6 hthis) dX0_become_88 kl_RX0_94 (by decide) (Nat.le_of_ble_eq_true rfl) ?_
  refine ab_lts (fun σ7 => ?_)
  refine ab_aload_n hκ dX0_become_91 rfl ?_
  refine ab_getf (v := .ref (a1 + 6)) hκ (sy_o0 ha1) kf_RX0_34 rfl dX0_become_92 rfl ?_
  refine ab_iconst (v := 0) hκ dX0_become_95 rfl ?_
  refine ab_aload_n hκ dX0_become_96 rfl ?_
  refine ab_getf (v := .ref (this + 6)) hκ (sy_o0 hthis) kf_RX0_34 rfl dX0_become_97 rfl ?_
  refine ab_iconst (v := 0) hκ dX0_become_100 rfl ?_
  refine ab_bipush (v := 16) hκ dX0_become_101 rfl ?_
  refine ab_copy hκ (sy_a0_7 ha1) (sy_a0_7 hthis) dX0_become_103 kl_RX0_94 (by decide) (Nat.le_of_ble_eq_true rfl) ?_
  refine ab_lts (fun σ8 => ?_)
  refine ab_aload_n hκ dX0_become_106 rfl ?_
  refine ab_getf (v := .ref (a1 + 7)) hκ (sy_o0 ha1) kf_RX0_37 rfl dX0_become_107 rfl ?_
  refine ab_iconst (v := 0) hκ dX0_become_110 rfl ?_
  refine ab_aload_n hκ dX0_become_111 rfl ?_
  refine ab_getf (v := .ref (this + 7)) hκ (sy_o0 hthis) kf_RX0_37 rfl dX0_become_112 rfl ?_
  refine ab_iconst (v := 0) hκ dX0_become_115 rfl ?_
  refine ab_bipush (v := 24) hκ dX0_become_116 rfl ?_
  refine ab_copy hκ (sy_a0_8 ha1) (sy_a0_8 hthis) dX0_become_118 kl_RX0_94 (by decide) (Nat.le_of_ble_eq_true rfl) ?_
  refine ab_lts (fun σ9 => ?_)
  refine ab_aload_n hκ dX0_become_121 rfl ?_
  refine ab_aload_n hκ dX0_become_122 rfl ?_
  refine ab_getf (v := .int (σ9 a1 9)) hκ (sy_o0 ha1) kf_RX0_40 rfl dX0_become_123 rfl ?_
  refine ab_putf hκ (sy_o0 hthis) kp_RX0_40 rfl dX0_become_126 ?_
  refine ab_lts (fun σ10 => ?_)
  refine ab_aload_n hκ dX0_become_129 rfl ?_
  refine ab_aload_n hκ dX0_become_130 rfl ?_
  refine ab_getf (v := .int (σ10 a1 10)) hκ (sy_o0 ha1) kf_RX0_43 rfl dX0_become_131 rfl ?_
  refine ab_putf hκ (sy_o0 hthis) kp_RX0_43 rfl dX0_become_134 ?_
  refine ab_lts (fun σ11 => ?_)
  refine ab_aload_n hκ dX0_become_137 rfl ?_
  refine ab_getf (v := .ref (a1 + 8)) hκ (sy_o0 ha1) kf_RX0_46 rfl dX0_become_138 rfl ?_
  refine ab_iconst (v := 0) hκ dX0_become_141 rfl ?_
  refine ab_aload_n hκ dX0_become_142 rfl ?_
  refine ab_getf (v := .ref (this + 8)) hκ (sy_o0 hthis) kf_RX0_46 rfl dX0_become_143 rfl ?_
  refine ab_iconst (v := 0) hκ dX0_become_146 rfl ?_
  refine ab_bipush (v := 8) hκ dX0_become_147 rfl ?_
  refine ab_copy hκ (sy_a0_11 ha1) (sy_a0_11 hthis) dX0_become_149 kl_RX0_94 (by decide) (Nat.le_of_ble_eq_true rfl) ?_
  refine ab_lts (fun σ12 => ?_)
  refine ab_aload_n hκ dX0_become_152 rfl ?_
  refine ab_getf (v := .ref (a1 + 9)) hκ (sy_o0 ha1) kf_RX0_49 rfl dX0_become_153 rfl ?_
  refine ab_iconst (v := 0) hκ dX0_become_156 rfl ?_
  refine ab_aload_n hκ dX0_become_157 rfl ?_
  refine ab_getf (v := .ref (this + 9)) hκ (sy_o0 hthis) kf_RX0_49 rfl dX0_become_158 rfl ?_
  refine ab_iconst (v := 0) hκ dX0_become_161 rfl ?_
  refine ab_bipush (v := 8) hκ dX0_become_162 rfl ?_
  refine ab_copy hκ (sy_a0_12 ha1) (sy_a0_12 hthis) dX0_become_164 kl_RX0_94 (by decide) (Nat.le_of_ble_eq_true rfl) ?_
  refine ab_lts (fun σ13 => ?_)
  refine ab_aload_n hκ dX0_become_167 rfl ?_
  refine ab_aload_n hκ dX0_become_168 rfl ?_
  refine ab_getf (v := .int (σ13 a1 13)) hκ (sy_o0 ha1) kf_RX0_52 rfl dX0_become_169 rfl ?_
  refine ab_putf hκ (sy_o0 hthis) kp_RX0_52 rfl dX0_become_172 ?_
  refine ab_lts (fun σ14 => ?_)
  refine ab_aload_n hκ dX0_become_175 rfl ?_
  refine ab_aload_n hκ dX0_become_176 rfl ?_
  refine ab_getf (v := .int (σ14 a1 14)) hκ (sy_o0 ha1) kf_RX0_55 rfl dX0_become_177 rfl ?_
  refine ab_putf hκ (sy_o0 hthis) kp_RX0_55 rfl dX0_become_180 ?_
  refine ab_lts (fun σ15 => ?_)
  exact ab_vret hκ dX0_become_183
-- BreathBand$Best.begin()V, depth 0
def m1_begin (this : Nat) (σ : St) : Option (Unit × St) := sy_zg 1 (sy_lt (sy_sf σ this 0 1) (fun σ1 => sy_lt (sy_sf σ1 this 1 (-1)) (fun σ2 => sy_lt (sy_sf σ2 this 2 (-1)) (fun σ3 => sy_lt (sy_sf σ3 this 3 (-1)) (fun σ4 => some ((), σ4))))))
set_option maxRecDepth 100000 in
set_option maxHeartbeats 4000000 in
theorem m1_begin_ok (this : Nat) (hthis : sy_is1 this) (σ : St) : Cok sy_cu yX1_begin cX1_begin 1 none 0 [.ref this] σ (m1_begin this σ) := by
  refine cok_of (own := RX1) (by decide) rfl (fun ad => Nat.le_of_ble_eq_true rfl) (fun κ hκ => ?_)
  show Ab sy_cu κ 0 [sy_vr this] [] σ (m1_begin this σ)
  unfold m1_begin
  refine ab_aload_n hκ dX1_begin_0 rfl ?_
  refine ab_iconst (v := 1) hκ dX1_begin_1 rfl ?_
  refine ab_putz hκ (sy_o1 hthis) kp_RX1_9 rfl dX1_begin_2 ?_
  refine ab_lts (fun σ1 => ?_)
  refine ab_aload_n hκ dX1_begin_5 rfl ?_
  refine ab_iconst (v := (-1)) hκ dX1_begin_6 rfl ?_
  refine ab_putf hκ (sy_o1 hthis) kp_RX1_15 rfl dX1_begin_7 ?_
  refine ab_lts (fun σ2 => ?_)
  refine ab_aload_n hκ dX1_begin_10 rfl ?_
  refine ab_iconst (v := (-1)) hκ dX1_begin_11 rfl ?_
  refine ab_putf hκ (sy_o1 hthis) kp_RX1_19 rfl dX1_begin_12 ?_
  refine ab_lts (fun σ3 => ?_)
  refine ab_aload_n hκ dX1_begin_15 rfl ?_
  refine ab_iconst (v := (-1)) hκ dX1_begin_16 rfl ?_
  refine ab_putf hκ (sy_o1 hthis) kp_RX1_22 rfl dX1_begin_17 ?_
  refine ab_lts (fun σ4 => ?_)
  exact ab_vret hκ dX1_begin_20
-- BreathBand.triedSounds()I, depth 3
def m6_triedSounds (σ : St) : Option (Int32 × St) := sy_bd (m3_play 34 15 σ) (fun _ σ1 => some ((σ1 34 7), σ1))
set_option maxRecDepth 100000 in
set_option maxHeartbeats 4000000 in
theorem m6_triedSounds_ok (σ : St) : Cok sy_vi yX6_triedSounds cX6_triedSounds 1 (some .int) 3 [.ref 0] σ (m6_triedSounds σ) := by
  refine cok_of (own := RX6) (by decide) rfl (fun ad => Nat.le_of_ble_eq_true rfl) (fun κ hκ => ?_)
  show Ab sy_vi κ 0 [sy_vr 0] [] σ (m6_triedSounds σ)
  unfold m6_triedSounds
  refine ab_aload_n hκ dX6_triedSounds_0 rfl ?_
  refine ab_getf (v := .ref 34) hκ (sy_o6 rfl) kf_RX6_38 rfl dX6_triedSounds_1 rfl ?_
  refine ab_aload_n hκ dX6_triedSounds_4 rfl ?_
  refine ab_getf (v := .ref 15) hκ (sy_o6 rfl) kf_RX6_28 rfl dX6_triedSounds_5 rfl ?_
  refine ab_cVv (vs := [.ref 15]) (st := []) hκ dX6_triedSounds_8 kl_RX6_265 ki_X3_play kv_X3_play (sy_o3 (Or.inr rfl)) rfl rfl (m3_play_ok 34 15 (Or.inr rfl) (Or.inr rfl) σ) rfl (by decide) (Nat.le_of_ble_eq_true rfl) rfl (fun _ σ1 => ?_)
  refine ab_aload_n hκ dX6_triedSounds_11 rfl ?_
  refine ab_getf (v := .ref 34) hκ (sy_o6 rfl) kf_RX6_38 rfl dX6_triedSounds_12 rfl ?_
  refine ab_getf (v := .int (σ1 34 7)) hκ (sy_o3 (Or.inr rfl)) kf_RX6_184 rfl dX6_triedSounds_15 rfl ?_
  exact ab_iret hκ dX6_triedSounds_18
-- BreathBand$Best.offer(III)V, depth 0
def m1_offer (this : Nat) (a1 : Int32) (a2 : Int32) (a3 : Int32) (σ : St) : Option (Unit × St) := if a3 ≤ (σ this 3) then (some ((), σ)) else (sy_lt (sy_sf σ this 1 a1) (fun σ1 => sy_lt (sy_sf σ1 this 2 a2) (fun σ2 => sy_lt (sy_sf σ2 this 3 a3) (fun σ3 => some ((), σ3)))))
set_option maxRecDepth 100000 in
set_option maxHeartbeats 4000000 in
theorem m1_offer_ok (this : Nat) (a1 : Int32) (a2 : Int32) (a3 : Int32) (hthis : sy_is1 this) (σ : St) : Cok sy_cu yX1_offer cX1_offer 4 none 0 [.ref this, .int a1, .int a2, .int a3] σ (m1_offer this a1 a2 a3 σ) := by
  refine cok_of (own := RX1) (by decide) rfl (fun ad => Nat.le_of_ble_eq_true rfl) (fun κ hκ => ?_)
  show Ab sy_cu κ 0 [sy_vr this, sy_vi a1, sy_vi a2, sy_vi a3] [] σ (m1_offer this a1 a2 a3 σ)
  unfold m1_offer
  refine ab_iload_n hκ dX1_offer_0 rfl ?_
  refine ab_aload_n hκ dX1_offer_1 rfl ?_
  refine ab_getf (v := .int (σ this 3)) hκ (sy_o1 hthis) kf_RX1_22 rfl dX1_offer_2 rfl ?_
  refine ab_icmp_le (tgt := 23) hκ dX1_offer_5 rfl ?_ ?_
  · exact ab_vret hκ dX1_offer_23
  · refine ab_aload_n hκ dX1_offer_8 rfl ?_
    refine ab_iload_n hκ dX1_offer_9 rfl ?_
    refine ab_putf hκ (sy_o1 hthis) kp_RX1_15 rfl dX1_offer_10 ?_
    refine ab_lts (fun σ1 => ?_)
    refine ab_aload_n hκ dX1_offer_13 rfl ?_
    refine ab_iload_n hκ dX1_offer_14 rfl ?_
    refine ab_putf hκ (sy_o1 hthis) kp_RX1_19 rfl dX1_offer_15 ?_
    refine ab_lts (fun σ2 => ?_)
    refine ab_aload_n hκ dX1_offer_18 rfl ?_
    refine ab_iload_n hκ dX1_offer_19 rfl ?_
    refine ab_putf hκ (sy_o1 hthis) kp_RX1_22 rfl dX1_offer_20 ?_
    refine ab_lts (fun σ3 => ?_)
    exact ab_vret hκ dX1_offer_23
-- BreathBand.searchFill()V, depth 4
def m6_searchFill_L20b (K20 : Int32 → St → Option (Unit × St)) (E20_53 : St → Option (Unit × St)) (x3 : Int32) (σ : St) : Option (Unit × St) := if 99 < x3 then (E20_53  σ) else (sy_lt (sy_sf σ 15 9 x3) (fun σ4 => sy_bd (m6_triedSounds σ4) (fun r6 σ5 => sy_bd (m1_offer 46 x3 (-1) r6 σ5) (fun _ σ7 => K20 (x3 + 1) σ7))))
def m6_searchFill_L20 (E20_53 : St → Option (Unit × St)) : Nat → Int32 → St → Option (Unit × St)
  | 0 => fun _ _ => none
  | n + 1 => m6_searchFill_L20b  (m6_searchFill_L20  E20_53 n) E20_53
set_option maxRecDepth 100000 in
set_option maxHeartbeats 4000000 in
theorem m6_searchFill_L20b_ok {κ : Kx} (hκ : Gd κ cX6_searchFill 2 RX6 none 4) {K20 : Int32 → St → Option (Unit × St)} (hK20 : ∀ (x3 : Int32) (σ : St), Ab sy_cu κ 20 [sy_vr 0, sy_vi x3] [] σ (K20 x3 σ)) {E20_53 : St → Option (Unit × St)} (hE20_53 : ∀ (σ : St), Ab sy_cu κ 53 [none, none] [] σ (E20_53  σ)) (x3 : Int32) (σ : St) : Ab sy_cu κ 20 [sy_vr 0, sy_vi x3] [] σ (m6_searchFill_L20b  K20 E20_53 x3 σ) := by
  unfold m6_searchFill_L20b
  refine ab_iload_n hκ dX6_searchFill_20 rfl ?_
  refine ab_bipush (v := 99) hκ dX6_searchFill_21 rfl ?_
  refine ab_icmp_gt (tgt := 53) hκ dX6_searchFill_23 rfl ?_ ?_
  · refine ab_fg (lv' := [none, none]) [0, 1] rfl ?_
    exact hE20_53  σ
  · refine ab_aload_n hκ dX6_searchFill_26 rfl ?_
    refine ab_getf (v := .ref 15) hκ (sy_o6 rfl) kf_RX6_28 rfl dX6_searchFill_27 rfl ?_
    refine ab_iload_n hκ dX6_searchFill_30 rfl ?_
    refine ab_putf hκ (sy_o0 (Or.inr rfl)) kp_RX6_129 rfl dX6_searchFill_31 ?_
    refine ab_lts (fun σ4 => ?_)
    refine ab_aload_n hκ dX6_searchFill_34 rfl ?_
    refine ab_getf (v := .ref 46) hκ (sy_o6 rfl) kf_RX6_51 rfl dX6_searchFill_35 rfl ?_
    refine ab_iload_n hκ dX6_searchFill_38 rfl ?_
    refine ab_iconst (v := (-1)) hκ dX6_searchFill_39 rfl ?_
    refine ab_aload_n hκ dX6_searchFill_40 rfl ?_
    refine ab_cVi (vs := []) (st := [.int (-1), .int x3, .ref 46]) hκ dX6_searchFill_41 kl_RX6_387 ki_X6_triedSounds kv_X6_triedSounds (sy_o6 rfl) rfl rfl (m6_triedSounds_ok σ4) rfl (by decide) (Nat.le_of_ble_eq_true rfl) rfl (fun r6 σ5 => ?_)
    refine ab_cVv (vs := [.int x3, .int (-1), .int r6]) (st := []) hκ dX6_searchFill_44 kl_RX6_390 ki_X1_offer kv_X1_offer (sy_o1 (Or.inl rfl)) rfl rfl (m1_offer_ok 46 x3 (-1) r6 (Or.inl rfl) σ5) rfl (by decide) (Nat.le_of_ble_eq_true rfl) rfl (fun _ σ7 => ?_)
    refine ab_iinc (v := (x3 + 1)) (lv' := [sy_vr 0, sy_vi (x3 + 1)]) hκ dX6_searchFill_47 rfl rfl (by decide) rfl ?_
    refine ab_goto (tgt := 20) hκ dX6_searchFill_50 rfl ?_
    exact hK20 (x3 + 1) σ7
theorem m6_searchFill_L20_ok {κ : Kx} (hκ : Gd κ cX6_searchFill 2 RX6 none 4) {E20_53 : St → Option (Unit × St)} (hE20_53 : ∀ (σ : St), Ab sy_cu κ 53 [none, none] [] σ (E20_53  σ)) : ∀ (n : Nat) (x3 : Int32) (σ : St), Ab sy_cu κ 20 [sy_vr 0, sy_vi x3] [] σ (m6_searchFill_L20  E20_53 n x3 σ) := by
  intro n
  induction n with
  | zero => intros; exact ab_none
  | succ n ih => exact fun x3 σ => m6_searchFill_L20b_ok hκ   ih hE20_53 x3 σ
def m6_searchFill (σ : St) : Option (Unit × St) := sy_bd (m0_become 15 5 σ) (fun _ σ1 => sy_bd (m1_begin 46 σ1) (fun _ σ2 => m6_searchFill_L20 (fun  σ8 => some ((), σ8)) sy_FU 1 σ2))
set_option maxRecDepth 100000 in
set_option maxHeartbeats 4000000 in
theorem m6_searchFill_ok (σ : St) : Cok sy_cu yX6_searchFill cX6_searchFill 2 none 4 [.ref 0] σ (m6_searchFill σ) := by
  refine cok_of (own := RX6) (by decide) rfl (fun ad => Nat.le_of_ble_eq_true rfl) (fun κ hκ => ?_)
  show Ab sy_cu κ 0 [sy_vr 0, none] [] σ (m6_searchFill σ)
  unfold m6_searchFill
  refine ab_aload_n hκ dX6_searchFill_0 rfl ?_
  refine ab_getf (v := .ref 15) hκ (sy_o6 rfl) kf_RX6_28 rfl dX6_searchFill_1 rfl ?_
  refine ab_aload_n hκ dX6_searchFill_4 rfl ?_
  refine ab_getf (v := .ref 5) hκ (sy_o6 rfl) kf_RX6_24 rfl dX6_searchFill_5 rfl ?_
  refine ab_cVv (vs := [.ref 5]) (st := []) hκ dX6_searchFill_8 kl_RX6_224 ki_X0_become kv_X0_become (sy_o0 (Or.inr rfl)) rfl rfl (m0_become_ok 15 5 (Or.inr rfl) (Or.inl rfl) σ) rfl (by decide) (Nat.le_of_ble_eq_true rfl) rfl (fun _ σ1 => ?_)
  refine ab_aload_n hκ dX6_searchFill_11 rfl ?_
  refine ab_getf (v := .ref 46) hκ (sy_o6 rfl) kf_RX6_51 rfl dX6_searchFill_12 rfl ?_
  refine ab_cVv (vs := []) (st := []) hκ dX6_searchFill_15 kl_RX6_384 ki_X1_begin kv_X1_begin (sy_o1 (Or.inl rfl)) rfl rfl (m1_begin_ok 46 (Or.inl rfl) σ1) rfl (by decide) (Nat.le_of_ble_eq_true rfl) rfl (fun _ σ2 => ?_)
  refine ab_iconst (v := 1) hκ dX6_searchFill_18 rfl ?_
  refine ab_istore_n (lv' := [sy_vr 0, sy_vi 1]) hκ dX6_searchFill_19 rfl (by decide) rfl ?_
  refine m6_searchFill_L20_ok hκ ?_ _ _ _
  · intro  σ8
    exact ab_vret hκ dX6_searchFill_53
-- BreathBand.fill(I)I, depth 5
def m6_fill (a1 : Int32) (σ : St) : Option (Int32 × St) := sy_bd (m6_within a1 0 1 σ) (fun r2 σ1 => if r2 = 0 then (some ((-2), σ1)) else (if (σ1 46 0) = 0 then (sy_bd (m6_searchFill σ1) (fun _ σ3 => if a1 = 0 then (some ((σ3 46 1), σ3)) else (some ((σ3 46 3), σ3)))) else (if a1 = 0 then (some ((σ1 46 1), σ1)) else (some ((σ1 46 3), σ1)))))
set_option maxRecDepth 100000 in
set_option maxHeartbeats 4000000 in
theorem m6_fill_ok (a1 : Int32) (σ : St) : Cok sy_vi yX6_fill cX6_fill 2 (some .int) 5 [.ref 0, .int a1] σ (m6_fill a1 σ) := by
  refine cok_of (own := RX6) (by decide) rfl (fun ad => Nat.le_of_ble_eq_true rfl) (fun κ hκ => ?_)
  show Ab sy_vi κ 0 [sy_vr 0, sy_vi a1] [] σ (m6_fill a1 σ)
  unfold m6_fill
  refine ab_iload_n hκ dX6_fill_0 rfl ?_
  refine ab_iconst (v := 0) hκ dX6_fill_1 rfl ?_
  refine ab_iconst (v := 1) hκ dX6_fill_2 rfl ?_
  refine ab_cSi (vs := [.int a1, .int 0, .int 1]) (st := []) hκ dX6_fill_3 kl_RX6_89 ki_X6_within kv_X6_within (m6_within_ok a1 0 1 σ) rfl (by decide) (Nat.le_of_ble_eq_true rfl) rfl (fun r2 σ1 => ?_)
  refine ab_if_ne (tgt := 12) hκ dX6_fill_6 rfl ?_ ?_
  · refine ab_aload_n hκ dX6_fill_12 rfl ?_
    refine ab_getf (v := .ref 46) hκ (sy_o6 rfl) kf_RX6_51 rfl dX6_fill_13 rfl ?_
    refine ab_getf (v := .int (σ1 46 0)) hκ (sy_o1 (Or.inl rfl)) kf_RX6_196 rfl dX6_fill_16 rfl ?_
    refine ab_if_ne (tgt := 26) hκ dX6_fill_19 rfl ?_ ?_
    · refine ab_iload_n hκ dX6_fill_26 rfl ?_
      refine ab_if_ne (tgt := 40) hκ dX6_fill_27 rfl ?_ ?_
      · refine ab_aload_n hκ dX6_fill_40 rfl ?_
        refine ab_getf (v := .ref 46) hκ (sy_o6 rfl) kf_RX6_51 rfl dX6_fill_41 rfl ?_
        refine ab_getf (v := .int (σ1 46 3)) hκ (sy_o1 (Or.inl rfl)) kf_RX6_205 rfl dX6_fill_44 rfl ?_
        exact ab_iret hκ dX6_fill_47
      · refine ab_aload_n hκ dX6_fill_30 rfl ?_
        refine ab_getf (v := .ref 46) hκ (sy_o6 rfl) kf_RX6_51 rfl dX6_fill_31 rfl ?_
        refine ab_getf (v := .int (σ1 46 1)) hκ (sy_o1 (Or.inl rfl)) kf_RX6_202 rfl dX6_fill_34 rfl ?_
        refine ab_goto (tgt := 47) hκ dX6_fill_37 rfl ?_
        exact ab_iret hκ dX6_fill_47
    · refine ab_aload_n hκ dX6_fill_22 rfl ?_
      refine ab_cVv (vs := []) (st := []) hκ dX6_fill_23 kl_RX6_199 ki_X6_searchFill kv_X6_searchFill (sy_o6 rfl) rfl rfl (m6_searchFill_ok σ1) rfl (by decide) (Nat.le_of_ble_eq_true rfl) rfl (fun _ σ3 => ?_)
      refine ab_iload_n hκ dX6_fill_26 rfl ?_
      refine ab_if_ne (tgt := 40) hκ dX6_fill_27 rfl ?_ ?_
      · refine ab_aload_n hκ dX6_fill_40 rfl ?_
        refine ab_getf (v := .ref 46) hκ (sy_o6 rfl) kf_RX6_51 rfl dX6_fill_41 rfl ?_
        refine ab_getf (v := .int (σ3 46 3)) hκ (sy_o1 (Or.inl rfl)) kf_RX6_205 rfl dX6_fill_44 rfl ?_
        exact ab_iret hκ dX6_fill_47
      · refine ab_aload_n hκ dX6_fill_30 rfl ?_
        refine ab_getf (v := .ref 46) hκ (sy_o6 rfl) kf_RX6_51 rfl dX6_fill_31 rfl ?_
        refine ab_getf (v := .int (σ3 46 1)) hκ (sy_o1 (Or.inl rfl)) kf_RX6_202 rfl dX6_fill_34 rfl ?_
        refine ab_goto (tgt := 47) hκ dX6_fill_37 rfl ?_
        exact ab_iret hκ dX6_fill_47
  · refine ab_bipush (v := (-2)) hκ dX6_fill_9 rfl ?_
    exact ab_iret hκ dX6_fill_11
-- BreathBand$Band.changeSeats(II)V, depth 0
def m0_changeSeats (this : Nat) (a1 : Int32) (a2 : Int32) (σ : St) : Option (Unit × St) := sy_gd a1 11 (sy_lt (σ (this + 3) (sy_ix a1)) (fun v1 => sy_gd a2 11 (sy_gd a1 11 (sy_lt (sy_sf σ (this + 3) (sy_ix a1) (σ (this + 3) (sy_ix a2))) (fun σ2 => sy_gd a2 11 (sy_lt (sy_sf σ2 (this + 3) (sy_ix a2) v1) (fun σ3 => sy_gd a1 11 (sy_gd (σ3 (this + 3) (sy_ix a1)) 11 (sy_lt (sy_sf σ3 (this + 4) (sy_ix (σ3 (this + 3) (sy_ix a1))) a1) (fun σ4 => sy_gd a2 11 (sy_gd (σ4 (this + 3) (sy_ix a2)) 11 (sy_lt (sy_sf σ4 (this + 4) (sy_ix (σ4 (this + 3) (sy_ix a2))) a2) (fun σ5 => some ((), σ5))))))))))))))
set_option maxRecDepth 100000 in
set_option maxHeartbeats 4000000 in
theorem m0_changeSeats_ok (this : Nat) (a1 : Int32) (a2 : Int32) (hthis : sy_is0 this) (σ : St) : Cok sy_cu yX0_changeSeats cX0_changeSeats 4 none 0 [.ref this, .int a1, .int a2] σ (m0_changeSeats this a1 a2 σ) := by
  refine cok_of (own := RX0) (by decide) rfl (fun ad => Nat.le_of_ble_eq_true rfl) (fun κ hκ => ?_)
  show Ab sy_cu κ 0 [sy_vr this, sy_vi a1, sy_vi a2, none] [] σ (m0_changeSeats this a1 a2 σ)
  unfold m0_changeSeats
  refine ab_aload_n hκ dX0_changeSeats_0 rfl ?_
  refine ab_getf (v := .ref (this + 3)) hκ (sy_o0 hthis) kf_RX0_22 rfl dX0_changeSeats_1 rfl ?_
  refine ab_iload_n hκ dX0_changeSeats_4 rfl ?_
  refine ab_iald hκ (sy_a0_3 hthis) dX0_changeSeats_5 ?_
  refine ab_lti (fun v1 => ?_)
  refine ab_istore_n (lv' := [sy_vr this, sy_vi a1, sy_vi a2, sy_vi v1]) hκ dX0_changeSeats_6 rfl (by decide) rfl ?_
  refine ab_aload_n hκ dX0_changeSeats_7 rfl ?_
  refine ab_getf (v := .ref (this + 3)) hκ (sy_o0 hthis) kf_RX0_22 rfl dX0_changeSeats_8 rfl ?_
  refine ab_iload_n hκ dX0_changeSeats_11 rfl ?_
  refine ab_aload_n hκ dX0_changeSeats_12 rfl ?_
  refine ab_getf (v := .ref (this + 3)) hκ (sy_o0 hthis) kf_RX0_22 rfl dX0_changeSeats_13 rfl ?_
  refine ab_iload_n hκ dX0_changeSeats_16 rfl ?_
  refine ab_iald hκ (sy_a0_3 hthis) dX0_changeSeats_17 ?_
  refine ab_iast hκ (sy_a0_3 hthis) dX0_changeSeats_18 ?_
  refine ab_lts (fun σ2 => ?_)
  refine ab_aload_n hκ dX0_changeSeats_19 rfl ?_
  refine ab_getf (v := .ref (this + 3)) hκ (sy_o0 hthis) kf_RX0_22 rfl dX0_changeSeats_20 rfl ?_
  refine ab_iload_n hκ dX0_changeSeats_23 rfl ?_
  refine ab_iload_n hκ dX0_changeSeats_24 rfl ?_
  refine ab_iast hκ (sy_a0_3 hthis) dX0_changeSeats_25 ?_
  refine ab_lts (fun σ3 => ?_)
  refine ab_aload_n hκ dX0_changeSeats_26 rfl ?_
  refine ab_getf (v := .ref (this + 4)) hκ (sy_o0 hthis) kf_RX0_25 rfl dX0_changeSeats_27 rfl ?_
  refine ab_aload_n hκ dX0_changeSeats_30 rfl ?_
  refine ab_getf (v := .ref (this + 3)) hκ (sy_o0 hthis) kf_RX0_22 rfl dX0_changeSeats_31 rfl ?_
  refine ab_iload_n hκ dX0_changeSeats_34 rfl ?_
  refine ab_iald hκ (sy_a0_3 hthis) dX0_changeSeats_35 ?_
  refine ab_iload_n hκ dX0_changeSeats_36 rfl ?_
  refine ab_iast hκ (sy_a0_4 hthis) dX0_changeSeats_37 ?_
  refine ab_lts (fun σ4 => ?_)
  refine ab_aload_n hκ dX0_changeSeats_38 rfl ?_
  refine ab_getf (v := .ref (this + 4)) hκ (sy_o0 hthis) kf_RX0_25 rfl dX0_changeSeats_39 rfl ?_
  refine ab_aload_n hκ dX0_changeSeats_42 rfl ?_
  refine ab_getf (v := .ref (this + 3)) hκ (sy_o0 hthis) kf_RX0_22 rfl dX0_changeSeats_43 rfl ?_
  refine ab_iload_n hκ dX0_changeSeats_46 rfl ?_
  refine ab_iald hκ (sy_a0_3 hthis) dX0_changeSeats_47 ?_
  refine ab_iload_n hκ dX0_changeSeats_48 rfl ?_
  refine ab_iast hκ (sy_a0_4 hthis) dX0_changeSeats_49 ?_
  refine ab_lts (fun σ5 => ?_)
  exact ab_vret hκ dX0_changeSeats_50
-- BreathBand.searchSwap()V, depth 4
def m6_searchSwap_L35b (K35 : Int32 → Int32 → St → Option (Unit × St)) (E35_83 : Int32 → St → Option (Unit × St)) (x5 : Int32) (x6 : Int32) (σ : St) : Option (Unit × St) := if (σ 5 0) ≤ x6 then (E35_83 x5 σ) else (sy_bd (m0_changeSeats 15 x5 x6 σ) (fun _ σ7 => sy_bd (m6_triedSounds σ7) (fun r9 σ8 => sy_bd (m1_offer 47 x5 x6 r9 σ8) (fun _ σ10 => sy_bd (m0_changeSeats 15 x5 x6 σ10) (fun _ σ11 => K35 x5 (x6 + 1) σ11)))))
def m6_searchSwap_L35 (E35_83 : Int32 → St → Option (Unit × St)) : Nat → Int32 → Int32 → St → Option (Unit × St)
  | 0 => fun _ _ _ => none
  | n + 1 => m6_searchSwap_L35b  (m6_searchSwap_L35  E35_83 n) E35_83
set_option maxRecDepth 100000 in
set_option maxHeartbeats 4000000 in
theorem m6_searchSwap_L35b_ok {κ : Kx} (hκ : Gd κ cX6_searchSwap 3 RX6 none 4) {K35 : Int32 → Int32 → St → Option (Unit × St)} (hK35 : ∀ (x5 : Int32) (x6 : Int32) (σ : St), Ab sy_cu κ 35 [sy_vr 0, sy_vi x5, sy_vi x6] [] σ (K35 x5 x6 σ)) {E35_83 : Int32 → St → Option (Unit × St)} (hE35_83 : ∀ (y1 : Int32) (σ : St), Ab sy_cu κ 83 [sy_vr 0, sy_vi y1, none] [] σ (E35_83 y1 σ)) (x5 : Int32) (x6 : Int32) (σ : St) : Ab sy_cu κ 35 [sy_vr 0, sy_vi x5, sy_vi x6] [] σ (m6_searchSwap_L35b  K35 E35_83 x5 x6 σ) := by
  unfold m6_searchSwap_L35b
  refine ab_iload_n hκ dX6_searchSwap_35 rfl ?_
  refine ab_aload_n hκ dX6_searchSwap_36 rfl ?_
  refine ab_getf (v := .ref 5) hκ (sy_o6 rfl) kf_RX6_24 rfl dX6_searchSwap_37 rfl ?_
  refine ab_getf (v := .int (σ 5 0)) hκ (sy_o0 (Or.inl rfl)) kf_RX6_193 rfl dX6_searchSwap_40 rfl ?_
  refine ab_icmp_ge (tgt := 83) hκ dX6_searchSwap_43 rfl ?_ ?_
  · refine ab_fg (lv' := [sy_vr 0, sy_vi x5, none]) [2] rfl ?_
    exact hE35_83 x5 σ
  · refine ab_aload_n hκ dX6_searchSwap_46 rfl ?_
    refine ab_getf (v := .ref 15) hκ (sy_o6 rfl) kf_RX6_28 rfl dX6_searchSwap_47 rfl ?_
    refine ab_iload_n hκ dX6_searchSwap_50 rfl ?_
    refine ab_iload_n hκ dX6_searchSwap_51 rfl ?_
    refine ab_cVv (vs := [.int x5, .int x6]) (st := []) hκ dX6_searchSwap_52 kl_RX6_394 ki_X0_changeSeats kv_X0_changeSeats (sy_o0 (Or.inr rfl)) rfl rfl (m0_changeSeats_ok 15 x5 x6 (Or.inr rfl) σ) rfl (by decide) (Nat.le_of_ble_eq_true rfl) rfl (fun _ σ7 => ?_)
    refine ab_aload_n hκ dX6_searchSwap_55 rfl ?_
    refine ab_getf (v := .ref 47) hκ (sy_o6 rfl) kf_RX6_55 rfl dX6_searchSwap_56 rfl ?_
    refine ab_iload_n hκ dX6_searchSwap_59 rfl ?_
    refine ab_iload_n hκ dX6_searchSwap_60 rfl ?_
    refine ab_aload_n hκ dX6_searchSwap_61 rfl ?_
    refine ab_cVi (vs := []) (st := [.int x6, .int x5, .ref 47]) hκ dX6_searchSwap_62 kl_RX6_387 ki_X6_triedSounds kv_X6_triedSounds (sy_o6 rfl) rfl rfl (m6_triedSounds_ok σ7) rfl (by decide) (Nat.le_of_ble_eq_true rfl) rfl (fun r9 σ8 => ?_)
    refine ab_cVv (vs := [.int x5, .int x6, .int r9]) (st := []) hκ dX6_searchSwap_65 kl_RX6_390 ki_X1_offer kv_X1_offer (sy_o1 (Or.inr (Or.inl rfl))) rfl rfl (m1_offer_ok 47 x5 x6 r9 (Or.inr (Or.inl rfl)) σ8) rfl (by decide) (Nat.le_of_ble_eq_true rfl) rfl (fun _ σ10 => ?_)
    refine ab_aload_n hκ dX6_searchSwap_68 rfl ?_
    refine ab_getf (v := .ref 15) hκ (sy_o6 rfl) kf_RX6_28 rfl dX6_searchSwap_69 rfl ?_
    refine ab_iload_n hκ dX6_searchSwap_72 rfl ?_
    refine ab_iload_n hκ dX6_searchSwap_73 rfl ?_
    refine ab_cVv (vs := [.int x5, .int x6]) (st := []) hκ dX6_searchSwap_74 kl_RX6_394 ki_X0_changeSeats kv_X0_changeSeats (sy_o0 (Or.inr rfl)) rfl rfl (m0_changeSeats_ok 15 x5 x6 (Or.inr rfl) σ10) rfl (by decide) (Nat.le_of_ble_eq_true rfl) rfl (fun _ σ11 => ?_)
    refine ab_iinc (v := (x6 + 1)) (lv' := [sy_vr 0, sy_vi x5, sy_vi (x6 + 1)]) hκ dX6_searchSwap_77 rfl rfl (by decide) rfl ?_
    refine ab_goto (tgt := 35) hκ dX6_searchSwap_80 rfl ?_
    exact hK35 x5 (x6 + 1) σ11
theorem m6_searchSwap_L35_ok {κ : Kx} (hκ : Gd κ cX6_searchSwap 3 RX6 none 4) {E35_83 : Int32 → St → Option (Unit × St)} (hE35_83 : ∀ (y1 : Int32) (σ : St), Ab sy_cu κ 83 [sy_vr 0, sy_vi y1, none] [] σ (E35_83 y1 σ)) : ∀ (n : Nat) (x5 : Int32) (x6 : Int32) (σ : St), Ab sy_cu κ 35 [sy_vr 0, sy_vi x5, sy_vi x6] [] σ (m6_searchSwap_L35  E35_83 n x5 x6 σ) := by
  intro n
  induction n with
  | zero => intros; exact ab_none
  | succ n ih => exact fun x5 x6 σ => m6_searchSwap_L35b_ok hκ   ih hE35_83 x5 x6 σ
def m6_searchSwap_L20b (K20 : Int32 → St → Option (Unit × St)) (E20_89 : St → Option (Unit × St)) (x3 : Int32) (σ : St) : Option (Unit × St) := if (σ 5 0) ≤ x3 then (E20_89  σ) else (sy_lt (x3 + 1) (fun v4 => m6_searchSwap_L35 (fun y12 σ13 => K20 (y12 + 1) σ13) sy_FU x3 v4 σ))
def m6_searchSwap_L20 (E20_89 : St → Option (Unit × St)) : Nat → Int32 → St → Option (Unit × St)
  | 0 => fun _ _ => none
  | n + 1 => m6_searchSwap_L20b  (m6_searchSwap_L20  E20_89 n) E20_89
set_option maxRecDepth 100000 in
set_option maxHeartbeats 4000000 in
theorem m6_searchSwap_L20b_ok {κ : Kx} (hκ : Gd κ cX6_searchSwap 3 RX6 none 4) {K20 : Int32 → St → Option (Unit × St)} (hK20 : ∀ (x3 : Int32) (σ : St), Ab sy_cu κ 20 [sy_vr 0, sy_vi x3, none] [] σ (K20 x3 σ)) {E20_89 : St → Option (Unit × St)} (hE20_89 : ∀ (σ : St), Ab sy_cu κ 89 [none, none, none] [] σ (E20_89  σ)) (x3 : Int32) (σ : St) : Ab sy_cu κ 20 [sy_vr 0, sy_vi x3, none] [] σ (m6_searchSwap_L20b  K20 E20_89 x3 σ) := by
  unfold m6_searchSwap_L20b
  refine ab_iload_n hκ dX6_searchSwap_20 rfl ?_
  refine ab_aload_n hκ dX6_searchSwap_21 rfl ?_
  refine ab_getf (v := .ref 5) hκ (sy_o6 rfl) kf_RX6_24 rfl dX6_searchSwap_22 rfl ?_
  refine ab_getf (v := .int (σ 5 0)) hκ (sy_o0 (Or.inl rfl)) kf_RX6_193 rfl dX6_searchSwap_25 rfl ?_
  refine ab_icmp_ge (tgt := 89) hκ dX6_searchSwap_28 rfl ?_ ?_
  · refine ab_fg (lv' := [none, none, none]) [0, 1] rfl ?_
    exact hE20_89  σ
  · refine ab_iload_n hκ dX6_searchSwap_31 rfl ?_
    refine ab_iconst (v := 1) hκ dX6_searchSwap_32 rfl ?_
    refine ab_iadd hκ dX6_searchSwap_33 ?_
    refine ab_lti (fun v4 => ?_)
    refine ab_istore_n (lv' := [sy_vr 0, sy_vi x3, sy_vi v4]) hκ dX6_searchSwap_34 rfl (by decide) rfl ?_
    refine m6_searchSwap_L35_ok hκ ?_ _ _ _ _
    · intro y12 σ13
      refine ab_iinc (v := (y12 + 1)) (lv' := [sy_vr 0, sy_vi (y12 + 1), none]) hκ dX6_searchSwap_83 rfl rfl (by decide) rfl ?_
      refine ab_goto (tgt := 20) hκ dX6_searchSwap_86 rfl ?_
      exact hK20 (y12 + 1) σ13
theorem m6_searchSwap_L20_ok {κ : Kx} (hκ : Gd κ cX6_searchSwap 3 RX6 none 4) {E20_89 : St → Option (Unit × St)} (hE20_89 : ∀ (σ : St), Ab sy_cu κ 89 [none, none, none] [] σ (E20_89  σ)) : ∀ (n : Nat) (x3 : Int32) (σ : St), Ab sy_cu κ 20 [sy_vr 0, sy_vi x3, none] [] σ (m6_searchSwap_L20  E20_89 n x3 σ) := by
  intro n
  induction n with
  | zero => intros; exact ab_none
  | succ n ih => exact fun x3 σ => m6_searchSwap_L20b_ok hκ   ih hE20_89 x3 σ
def m6_searchSwap (σ : St) : Option (Unit × St) := sy_bd (m0_become 15 5 σ) (fun _ σ1 => sy_bd (m1_begin 47 σ1) (fun _ σ2 => m6_searchSwap_L20 (fun  σ14 => some ((), σ14)) sy_FU 0 σ2))
set_option maxRecDepth 100000 in
set_option maxHeartbeats 4000000 in
theorem m6_searchSwap_ok (σ : St) : Cok sy_cu yX6_searchSwap cX6_searchSwap 3 none 4 [.ref 0] σ (m6_searchSwap σ) := by
  refine cok_of (own := RX6) (by decide) rfl (fun ad => Nat.le_of_ble_eq_true rfl) (fun κ hκ => ?_)
  show Ab sy_cu κ 0 [sy_vr 0, none, none] [] σ (m6_searchSwap σ)
  unfold m6_searchSwap
  refine ab_aload_n hκ dX6_searchSwap_0 rfl ?_
  refine ab_getf (v := .ref 15) hκ (sy_o6 rfl) kf_RX6_28 rfl dX6_searchSwap_1 rfl ?_
  refine ab_aload_n hκ dX6_searchSwap_4 rfl ?_
  refine ab_getf (v := .ref 5) hκ (sy_o6 rfl) kf_RX6_24 rfl dX6_searchSwap_5 rfl ?_
  refine ab_cVv (vs := [.ref 5]) (st := []) hκ dX6_searchSwap_8 kl_RX6_224 ki_X0_become kv_X0_become (sy_o0 (Or.inr rfl)) rfl rfl (m0_become_ok 15 5 (Or.inr rfl) (Or.inl rfl) σ) rfl (by decide) (Nat.le_of_ble_eq_true rfl) rfl (fun _ σ1 => ?_)
  refine ab_aload_n hκ dX6_searchSwap_11 rfl ?_
  refine ab_getf (v := .ref 47) hκ (sy_o6 rfl) kf_RX6_55 rfl dX6_searchSwap_12 rfl ?_
  refine ab_cVv (vs := []) (st := []) hκ dX6_searchSwap_15 kl_RX6_384 ki_X1_begin kv_X1_begin (sy_o1 (Or.inr (Or.inl rfl))) rfl rfl (m1_begin_ok 47 (Or.inr (Or.inl rfl)) σ1) rfl (by decide) (Nat.le_of_ble_eq_true rfl) rfl (fun _ σ2 => ?_)
  refine ab_iconst (v := 0) hκ dX6_searchSwap_18 rfl ?_
  refine ab_istore_n (lv' := [sy_vr 0, sy_vi 0, none]) hκ dX6_searchSwap_19 rfl (by decide) rfl ?_
  refine m6_searchSwap_L20_ok hκ ?_ _ _ _
  · intro  σ14
    exact ab_vret hκ dX6_searchSwap_89
-- BreathBand.swap(I)I, depth 5
def m6_swap_J26 (x3 : Int32)  (σ : St) : Option (Int32 × St) := if x3 = 0 then (some ((σ 47 1), σ)) else (if x3 = 1 then (some ((σ 47 2), σ)) else (some ((σ 47 3), σ)))
set_option maxRecDepth 100000 in
set_option maxHeartbeats 4000000 in
theorem m6_swap_J26_ok {κ : Kx} (hκ : Gd κ cX6_swap 2 RX6 (some .int) 5) (x3 : Int32) (σ : St) : Ab sy_vi κ 26 [sy_vr 0, sy_vi x3] [] σ (m6_swap_J26 x3 σ) := by
  unfold m6_swap_J26
  refine ab_iload_n hκ dX6_swap_26 rfl ?_
  refine ab_if_ne (tgt := 38) hκ dX6_swap_27 rfl ?_ ?_
  · refine ab_iload_n hκ dX6_swap_38 rfl ?_
    refine ab_iconst (v := 1) hκ dX6_swap_39 rfl ?_
    refine ab_icmp_ne (tgt := 53) hκ dX6_swap_40 rfl ?_ ?_
    · refine ab_aload_n hκ dX6_swap_53 rfl ?_
      refine ab_getf (v := .ref 47) hκ (sy_o6 rfl) kf_RX6_55 rfl dX6_swap_54 rfl ?_
      refine ab_getf (v := .int (σ 47 3)) hκ (sy_o1 (Or.inr (Or.inl rfl))) kf_RX6_205 rfl dX6_swap_57 rfl ?_
      exact ab_iret hκ dX6_swap_60
    · refine ab_aload_n hκ dX6_swap_43 rfl ?_
      refine ab_getf (v := .ref 47) hκ (sy_o6 rfl) kf_RX6_55 rfl dX6_swap_44 rfl ?_
      refine ab_getf (v := .int (σ 47 2)) hκ (sy_o1 (Or.inr (Or.inl rfl))) kf_RX6_211 rfl dX6_swap_47 rfl ?_
      refine ab_goto (tgt := 60) hκ dX6_swap_50 rfl ?_
      exact ab_iret hκ dX6_swap_60
  · refine ab_aload_n hκ dX6_swap_30 rfl ?_
    refine ab_getf (v := .ref 47) hκ (sy_o6 rfl) kf_RX6_55 rfl dX6_swap_31 rfl ?_
    refine ab_getf (v := .int (σ 47 1)) hκ (sy_o1 (Or.inr (Or.inl rfl))) kf_RX6_202 rfl dX6_swap_34 rfl ?_
    exact ab_iret hκ dX6_swap_37
def m6_swap (a1 : Int32) (σ : St) : Option (Int32 × St) := sy_bd (m6_within a1 0 2 σ) (fun r2 σ1 => if r2 = 0 then (some ((-2), σ1)) else (if (σ1 47 0) = 0 then (sy_bd (m6_searchSwap σ1) (fun _ σ4 => m6_swap_J26 a1 σ4)) else (m6_swap_J26 a1 σ1)))
set_option maxRecDepth 100000 in
set_option maxHeartbeats 4000000 in
theorem m6_swap_ok (a1 : Int32) (σ : St) : Cok sy_vi yX6_swap cX6_swap 2 (some .int) 5 [.ref 0, .int a1] σ (m6_swap a1 σ) := by
  refine cok_of (own := RX6) (by decide) rfl (fun ad => Nat.le_of_ble_eq_true rfl) (fun κ hκ => ?_)
  show Ab sy_vi κ 0 [sy_vr 0, sy_vi a1] [] σ (m6_swap a1 σ)
  unfold m6_swap
  refine ab_iload_n hκ dX6_swap_0 rfl ?_
  refine ab_iconst (v := 0) hκ dX6_swap_1 rfl ?_
  refine ab_iconst (v := 2) hκ dX6_swap_2 rfl ?_
  refine ab_cSi (vs := [.int a1, .int 0, .int 2]) (st := []) hκ dX6_swap_3 kl_RX6_89 ki_X6_within kv_X6_within (m6_within_ok a1 0 2 σ) rfl (by decide) (Nat.le_of_ble_eq_true rfl) rfl (fun r2 σ1 => ?_)
  refine ab_if_ne (tgt := 12) hκ dX6_swap_6 rfl ?_ ?_
  · refine ab_aload_n hκ dX6_swap_12 rfl ?_
    refine ab_getf (v := .ref 47) hκ (sy_o6 rfl) kf_RX6_55 rfl dX6_swap_13 rfl ?_
    refine ab_getf (v := .int (σ1 47 0)) hκ (sy_o1 (Or.inr (Or.inl rfl))) kf_RX6_196 rfl dX6_swap_16 rfl ?_
    refine ab_if_ne (tgt := 26) hκ dX6_swap_19 rfl ?_ ?_
    · exact m6_swap_J26_ok hκ a1 σ1
    · refine ab_aload_n hκ dX6_swap_22 rfl ?_
      refine ab_cVv (vs := []) (st := []) hκ dX6_swap_23 kl_RX6_208 ki_X6_searchSwap kv_X6_searchSwap (sy_o6 rfl) rfl rfl (m6_searchSwap_ok σ1) rfl (by decide) (Nat.le_of_ble_eq_true rfl) rfl (fun _ σ4 => ?_)
      exact m6_swap_J26_ok hκ a1 σ4
  · refine ab_bipush (v := (-2)) hκ dX6_swap_9 rfl ?_
    exact ab_iret hκ dX6_swap_11
-- BreathBand.searchHold()V, depth 4
def m6_searchHold_L20b (K20 : Int32 → St → Option (Unit × St)) (E20_53 : St → Option (Unit × St)) (x3 : Int32) (σ : St) : Option (Unit × St) := if 24 ≤ x3 then (E20_53  σ) else (sy_lt (sy_sf σ 15 14 x3) (fun σ4 => sy_bd (m6_triedSounds σ4) (fun r6 σ5 => sy_bd (m1_offer 48 x3 (-1) r6 σ5) (fun _ σ7 => K20 (x3 + 1) σ7))))
def m6_searchHold_L20 (E20_53 : St → Option (Unit × St)) : Nat → Int32 → St → Option (Unit × St)
  | 0 => fun _ _ => none
  | n + 1 => m6_searchHold_L20b  (m6_searchHold_L20  E20_53 n) E20_53
set_option maxRecDepth 100000 in
set_option maxHeartbeats 4000000 in
theorem m6_searchHold_L20b_ok {κ : Kx} (hκ : Gd κ cX6_searchHold 2 RX6 none 4) {K20 : Int32 → St → Option (Unit × St)} (hK20 : ∀ (x3 : Int32) (σ : St), Ab sy_cu κ 20 [sy_vr 0, sy_vi x3] [] σ (K20 x3 σ)) {E20_53 : St → Option (Unit × St)} (hE20_53 : ∀ (σ : St), Ab sy_cu κ 53 [none, none] [] σ (E20_53  σ)) (x3 : Int32) (σ : St) : Ab sy_cu κ 20 [sy_vr 0, sy_vi x3] [] σ (m6_searchHold_L20b  K20 E20_53 x3 σ) := by
  unfold m6_searchHold_L20b
  refine ab_iload_n hκ dX6_searchHold_20 rfl ?_
  refine ab_bipush (v := 24) hκ dX6_searchHold_21 rfl ?_
  refine ab_icmp_ge (tgt := 53) hκ dX6_searchHold_23 rfl ?_ ?_
  · refine ab_fg (lv' := [none, none]) [0, 1] rfl ?_
    exact hE20_53  σ
  · refine ab_aload_n hκ dX6_searchHold_26 rfl ?_
    refine ab_getf (v := .ref 15) hκ (sy_o6 rfl) kf_RX6_28 rfl dX6_searchHold_27 rfl ?_
    refine ab_iload_n hκ dX6_searchHold_30 rfl ?_
    refine ab_putf hκ (sy_o0 (Or.inr rfl)) kp_RX6_397 rfl dX6_searchHold_31 ?_
    refine ab_lts (fun σ4 => ?_)
    refine ab_aload_n hκ dX6_searchHold_34 rfl ?_
    refine ab_getf (v := .ref 48) hκ (sy_o6 rfl) kf_RX6_58 rfl dX6_searchHold_35 rfl ?_
    refine ab_iload_n hκ dX6_searchHold_38 rfl ?_
    refine ab_iconst (v := (-1)) hκ dX6_searchHold_39 rfl ?_
    refine ab_aload_n hκ dX6_searchHold_40 rfl ?_
    refine ab_cVi (vs := []) (st := [.int (-1), .int x3, .ref 48]) hκ dX6_searchHold_41 kl_RX6_387 ki_X6_triedSounds kv_X6_triedSounds (sy_o6 rfl) rfl rfl (m6_triedSounds_ok σ4) rfl (by decide) (Nat.le_of_ble_eq_true rfl) rfl (fun r6 σ5 => ?_)
    refine ab_cVv (vs := [.int x3, .int (-1), .int r6]) (st := []) hκ dX6_searchHold_44 kl_RX6_390 ki_X1_offer kv_X1_offer (sy_o1 (Or.inr (Or.inr (Or.inl rfl)))) rfl rfl (m1_offer_ok 48 x3 (-1) r6 (Or.inr (Or.inr (Or.inl rfl))) σ5) rfl (by decide) (Nat.le_of_ble_eq_true rfl) rfl (fun _ σ7 => ?_)
    refine ab_iinc (v := (x3 + 1)) (lv' := [sy_vr 0, sy_vi (x3 + 1)]) hκ dX6_searchHold_47 rfl rfl (by decide) rfl ?_
    refine ab_goto (tgt := 20) hκ dX6_searchHold_50 rfl ?_
    exact hK20 (x3 + 1) σ7
theorem m6_searchHold_L20_ok {κ : Kx} (hκ : Gd κ cX6_searchHold 2 RX6 none 4) {E20_53 : St → Option (Unit × St)} (hE20_53 : ∀ (σ : St), Ab sy_cu κ 53 [none, none] [] σ (E20_53  σ)) : ∀ (n : Nat) (x3 : Int32) (σ : St), Ab sy_cu κ 20 [sy_vr 0, sy_vi x3] [] σ (m6_searchHold_L20  E20_53 n x3 σ) := by
  intro n
  induction n with
  | zero => intros; exact ab_none
  | succ n ih => exact fun x3 σ => m6_searchHold_L20b_ok hκ   ih hE20_53 x3 σ
def m6_searchHold (σ : St) : Option (Unit × St) := sy_bd (m0_become 15 5 σ) (fun _ σ1 => sy_bd (m1_begin 48 σ1) (fun _ σ2 => m6_searchHold_L20 (fun  σ8 => some ((), σ8)) sy_FU 0 σ2))
set_option maxRecDepth 100000 in
set_option maxHeartbeats 4000000 in
theorem m6_searchHold_ok (σ : St) : Cok sy_cu yX6_searchHold cX6_searchHold 2 none 4 [.ref 0] σ (m6_searchHold σ) := by
  refine cok_of (own := RX6) (by decide) rfl (fun ad => Nat.le_of_ble_eq_true rfl) (fun κ hκ => ?_)
  show Ab sy_cu κ 0 [sy_vr 0, none] [] σ (m6_searchHold σ)
  unfold m6_searchHold
  refine ab_aload_n hκ dX6_searchHold_0 rfl ?_
  refine ab_getf (v := .ref 15) hκ (sy_o6 rfl) kf_RX6_28 rfl dX6_searchHold_1 rfl ?_
  refine ab_aload_n hκ dX6_searchHold_4 rfl ?_
  refine ab_getf (v := .ref 5) hκ (sy_o6 rfl) kf_RX6_24 rfl dX6_searchHold_5 rfl ?_
  refine ab_cVv (vs := [.ref 5]) (st := []) hκ dX6_searchHold_8 kl_RX6_224 ki_X0_become kv_X0_become (sy_o0 (Or.inr rfl)) rfl rfl (m0_become_ok 15 5 (Or.inr rfl) (Or.inl rfl) σ) rfl (by decide) (Nat.le_of_ble_eq_true rfl) rfl (fun _ σ1 => ?_)
  refine ab_aload_n hκ dX6_searchHold_11 rfl ?_
  refine ab_getf (v := .ref 48) hκ (sy_o6 rfl) kf_RX6_58 rfl dX6_searchHold_12 rfl ?_
  refine ab_cVv (vs := []) (st := []) hκ dX6_searchHold_15 kl_RX6_384 ki_X1_begin kv_X1_begin (sy_o1 (Or.inr (Or.inr (Or.inl rfl)))) rfl rfl (m1_begin_ok 48 (Or.inr (Or.inr (Or.inl rfl))) σ1) rfl (by decide) (Nat.le_of_ble_eq_true rfl) rfl (fun _ σ2 => ?_)
  refine ab_iconst (v := 0) hκ dX6_searchHold_18 rfl ?_
  refine ab_istore_n (lv' := [sy_vr 0, sy_vi 0]) hκ dX6_searchHold_19 rfl (by decide) rfl ?_
  refine m6_searchHold_L20_ok hκ ?_ _ _ _
  · intro  σ8
    exact ab_vret hκ dX6_searchHold_53
-- BreathBand.hold(I)I, depth 5
def m6_hold (a1 : Int32) (σ : St) : Option (Int32 × St) := sy_bd (m6_within a1 0 1 σ) (fun r2 σ1 => if r2 = 0 then (some ((-2), σ1)) else (if (σ1 48 0) = 0 then (sy_bd (m6_searchHold σ1) (fun _ σ3 => if a1 = 0 then (some ((σ3 48 1), σ3)) else (some ((σ3 48 3), σ3)))) else (if a1 = 0 then (some ((σ1 48 1), σ1)) else (some ((σ1 48 3), σ1)))))
set_option maxRecDepth 100000 in
set_option maxHeartbeats 4000000 in
theorem m6_hold_ok (a1 : Int32) (σ : St) : Cok sy_vi yX6_hold cX6_hold 2 (some .int) 5 [.ref 0, .int a1] σ (m6_hold a1 σ) := by
  refine cok_of (own := RX6) (by decide) rfl (fun ad => Nat.le_of_ble_eq_true rfl) (fun κ hκ => ?_)
  show Ab sy_vi κ 0 [sy_vr 0, sy_vi a1] [] σ (m6_hold a1 σ)
  unfold m6_hold
  refine ab_iload_n hκ dX6_hold_0 rfl ?_
  refine ab_iconst (v := 0) hκ dX6_hold_1 rfl ?_
  refine ab_iconst (v := 1) hκ dX6_hold_2 rfl ?_
  refine ab_cSi (vs := [.int a1, .int 0, .int 1]) (st := []) hκ dX6_hold_3 kl_RX6_89 ki_X6_within kv_X6_within (m6_within_ok a1 0 1 σ) rfl (by decide) (Nat.le_of_ble_eq_true rfl) rfl (fun r2 σ1 => ?_)
  refine ab_if_ne (tgt := 12) hκ dX6_hold_6 rfl ?_ ?_
  · refine ab_aload_n hκ dX6_hold_12 rfl ?_
    refine ab_getf (v := .ref 48) hκ (sy_o6 rfl) kf_RX6_58 rfl dX6_hold_13 rfl ?_
    refine ab_getf (v := .int (σ1 48 0)) hκ (sy_o1 (Or.inr (Or.inr (Or.inl rfl)))) kf_RX6_196 rfl dX6_hold_16 rfl ?_
    refine ab_if_ne (tgt := 26) hκ dX6_hold_19 rfl ?_ ?_
    · refine ab_iload_n hκ dX6_hold_26 rfl ?_
      refine ab_if_ne (tgt := 40) hκ dX6_hold_27 rfl ?_ ?_
      · refine ab_aload_n hκ dX6_hold_40 rfl ?_
        refine ab_getf (v := .ref 48) hκ (sy_o6 rfl) kf_RX6_58 rfl dX6_hold_41 rfl ?_
        refine ab_getf (v := .int (σ1 48 3)) hκ (sy_o1 (Or.inr (Or.inr (Or.inl rfl)))) kf_RX6_205 rfl dX6_hold_44 rfl ?_
        exact ab_iret hκ dX6_hold_47
      · refine ab_aload_n hκ dX6_hold_30 rfl ?_
        refine ab_getf (v := .ref 48) hκ (sy_o6 rfl) kf_RX6_58 rfl dX6_hold_31 rfl ?_
        refine ab_getf (v := .int (σ1 48 1)) hκ (sy_o1 (Or.inr (Or.inr (Or.inl rfl)))) kf_RX6_202 rfl dX6_hold_34 rfl ?_
        refine ab_goto (tgt := 47) hκ dX6_hold_37 rfl ?_
        exact ab_iret hκ dX6_hold_47
    · refine ab_aload_n hκ dX6_hold_22 rfl ?_
      refine ab_cVv (vs := []) (st := []) hκ dX6_hold_23 kl_RX6_214 ki_X6_searchHold kv_X6_searchHold (sy_o6 rfl) rfl rfl (m6_searchHold_ok σ1) rfl (by decide) (Nat.le_of_ble_eq_true rfl) rfl (fun _ σ3 => ?_)
      refine ab_iload_n hκ dX6_hold_26 rfl ?_
      refine ab_if_ne (tgt := 40) hκ dX6_hold_27 rfl ?_ ?_
      · refine ab_aload_n hκ dX6_hold_40 rfl ?_
        refine ab_getf (v := .ref 48) hκ (sy_o6 rfl) kf_RX6_58 rfl dX6_hold_41 rfl ?_
        refine ab_getf (v := .int (σ3 48 3)) hκ (sy_o1 (Or.inr (Or.inr (Or.inl rfl)))) kf_RX6_205 rfl dX6_hold_44 rfl ?_
        exact ab_iret hκ dX6_hold_47
      · refine ab_aload_n hκ dX6_hold_30 rfl ?_
        refine ab_getf (v := .ref 48) hκ (sy_o6 rfl) kf_RX6_58 rfl dX6_hold_31 rfl ?_
        refine ab_getf (v := .int (σ3 48 1)) hκ (sy_o1 (Or.inr (Or.inr (Or.inl rfl)))) kf_RX6_202 rfl dX6_hold_34 rfl ?_
        refine ab_goto (tgt := 47) hκ dX6_hold_37 rfl ?_
        exact ab_iret hκ dX6_hold_47
  · refine ab_bipush (v := (-2)) hκ dX6_hold_9 rfl ?_
    exact ab_iret hκ dX6_hold_11
-- BreathBand.noneMissedWithout(I)Z, depth 3
def m6_noneMissedWithout (a1 : Int32) (σ : St) : Option (Int32 × St) := sy_lt (sy_sf σ 15 13 a1) (fun σ1 => sy_bd (m3_play 34 15 σ1) (fun _ σ2 => if (σ2 34 9) = 0 then (sy_zg 1 (some (1, σ2))) else (sy_zg 0 (some (0, σ2)))))
set_option maxRecDepth 100000 in
set_option maxHeartbeats 4000000 in
theorem m6_noneMissedWithout_ok (a1 : Int32) (σ : St) : Cok sy_vi yX6_noneMissedWithout cX6_noneMissedWithout 2 (some .boolean) 3 [.ref 0, .int a1] σ (m6_noneMissedWithout a1 σ) := by
  refine cok_of (own := RX6) (by decide) rfl (fun ad => Nat.le_of_ble_eq_true rfl) (fun κ hκ => ?_)
  show Ab sy_vi κ 0 [sy_vr 0, sy_vi a1] [] σ (m6_noneMissedWithout a1 σ)
  unfold m6_noneMissedWithout
  refine ab_aload_n hκ dX6_noneMissedWithout_0 rfl ?_
  refine ab_getf (v := .ref 15) hκ (sy_o6 rfl) kf_RX6_28 rfl dX6_noneMissedWithout_1 rfl ?_
  refine ab_iload_n hκ dX6_noneMissedWithout_4 rfl ?_
  refine ab_putf hκ (sy_o0 (Or.inr rfl)) kp_RX6_228 rfl dX6_noneMissedWithout_5 ?_
  refine ab_lts (fun σ1 => ?_)
  refine ab_aload_n hκ dX6_noneMissedWithout_8 rfl ?_
  refine ab_getf (v := .ref 34) hκ (sy_o6 rfl) kf_RX6_38 rfl dX6_noneMissedWithout_9 rfl ?_
  refine ab_aload_n hκ dX6_noneMissedWithout_12 rfl ?_
  refine ab_getf (v := .ref 15) hκ (sy_o6 rfl) kf_RX6_28 rfl dX6_noneMissedWithout_13 rfl ?_
  refine ab_cVv (vs := [.ref 15]) (st := []) hκ dX6_noneMissedWithout_16 kl_RX6_265 ki_X3_play kv_X3_play (sy_o3 (Or.inr rfl)) rfl rfl (m3_play_ok 34 15 (Or.inr rfl) (Or.inr rfl) σ1) rfl (by decide) (Nat.le_of_ble_eq_true rfl) rfl (fun _ σ2 => ?_)
  refine ab_aload_n hκ dX6_noneMissedWithout_19 rfl ?_
  refine ab_getf (v := .ref 34) hκ (sy_o6 rfl) kf_RX6_38 rfl dX6_noneMissedWithout_20 rfl ?_
  refine ab_getf (v := .int (σ2 34 9)) hκ (sy_o3 (Or.inr rfl)) kf_RX6_403 rfl dX6_noneMissedWithout_23 rfl ?_
  refine ab_if_ne (tgt := 33) hκ dX6_noneMissedWithout_26 rfl ?_ ?_
  · refine ab_iconst (v := 0) hκ dX6_noneMissedWithout_33 rfl ?_
    exact ab_zret hκ dX6_noneMissedWithout_34
  · refine ab_iconst (v := 1) hκ dX6_noneMissedWithout_29 rfl ?_
    refine ab_goto (tgt := 34) hκ dX6_noneMissedWithout_30 rfl ?_
    exact ab_zret hκ dX6_noneMissedWithout_34
-- BreathBand.searchSpare()V, depth 4
def m6_searchSpare_L39b (K39 : Int32 → St → Option (Unit × St)) (E39_60 : Int32 → St → Option (Unit × St)) (E39_77 : St → Option (Unit × St)) (x5 : Int32) (σ : St) : Option (Unit × St) := if (σ 5 10) ≤ x5 then (E39_77  σ) else (sy_bd (m6_noneMissedWithout (1 <<< (x5 &&& 31)) σ) (fun r7 σ6 => if r7 = 0 then (K39 (x5 + 1) σ6) else (E39_60 x5 σ6)))
def m6_searchSpare_L39 (E39_60 : Int32 → St → Option (Unit × St)) (E39_77 : St → Option (Unit × St)) : Nat → Int32 → St → Option (Unit × St)
  | 0 => fun _ _ => none
  | n + 1 => m6_searchSpare_L39b  (m6_searchSpare_L39  E39_60 E39_77 n) E39_60 E39_77
set_option maxRecDepth 100000 in
set_option maxHeartbeats 4000000 in
theorem m6_searchSpare_L39b_ok {κ : Kx} (hκ : Gd κ cX6_searchSpare 3 RX6 none 4) {K39 : Int32 → St → Option (Unit × St)} (hK39 : ∀ (x5 : Int32) (σ : St), Ab sy_cu κ 39 [sy_vr 0, sy_vi x5, none] [] σ (K39 x5 σ)) {E39_60 : Int32 → St → Option (Unit × St)} (hE39_60 : ∀ (y1 : Int32) (σ : St), Ab sy_cu κ 60 [sy_vr 0, sy_vi y1, none] [] σ (E39_60 y1 σ)) {E39_77 : St → Option (Unit × St)} (hE39_77 : ∀ (σ : St), Ab sy_cu κ 77 [sy_vr 0, none, none] [] σ (E39_77  σ)) (x5 : Int32) (σ : St) : Ab sy_cu κ 39 [sy_vr 0, sy_vi x5, none] [] σ (m6_searchSpare_L39b  K39 E39_60 E39_77 x5 σ) := by
  unfold m6_searchSpare_L39b
  refine ab_iload_n hκ dX6_searchSpare_39 rfl ?_
  refine ab_aload_n hκ dX6_searchSpare_40 rfl ?_
  refine ab_getf (v := .ref 5) hκ (sy_o6 rfl) kf_RX6_24 rfl dX6_searchSpare_41 rfl ?_
  refine ab_getf (v := .int (σ 5 10)) hκ (sy_o0 (Or.inl rfl)) kf_RX6_142 rfl dX6_searchSpare_44 rfl ?_
  refine ab_icmp_ge (tgt := 77) hκ dX6_searchSpare_47 rfl ?_ ?_
  · refine ab_fg (lv' := [sy_vr 0, none, none]) [1] rfl ?_
    exact hE39_77  σ
  · refine ab_aload_n hκ dX6_searchSpare_50 rfl ?_
    refine ab_iconst (v := 1) hκ dX6_searchSpare_51 rfl ?_
    refine ab_iload_n hκ dX6_searchSpare_52 rfl ?_
    refine ab_ishl hκ dX6_searchSpare_53 ?_
    refine ab_cVi (vs := [.int (1 <<< (x5 &&& 31))]) (st := []) hκ dX6_searchSpare_54 kl_RX6_400 ki_X6_noneMissedWithout kv_X6_noneMissedWithout (sy_o6 rfl) rfl rfl (m6_noneMissedWithout_ok (1 <<< (x5 &&& 31)) σ) rfl (by decide) (Nat.le_of_ble_eq_true rfl) rfl (fun r7 σ6 => ?_)
    refine ab_if_eq (tgt := 71) hκ dX6_searchSpare_57 rfl ?_ ?_
    · refine ab_iinc (v := (x5 + 1)) (lv' := [sy_vr 0, sy_vi (x5 + 1), none]) hκ dX6_searchSpare_71 rfl rfl (by decide) rfl ?_
      refine ab_goto (tgt := 39) hκ dX6_searchSpare_74 rfl ?_
      exact hK39 (x5 + 1) σ6
    · exact hE39_60 x5 σ6
theorem m6_searchSpare_L39_ok {κ : Kx} (hκ : Gd κ cX6_searchSpare 3 RX6 none 4) {E39_60 : Int32 → St → Option (Unit × St)} (hE39_60 : ∀ (y1 : Int32) (σ : St), Ab sy_cu κ 60 [sy_vr 0, sy_vi y1, none] [] σ (E39_60 y1 σ)) {E39_77 : St → Option (Unit × St)} (hE39_77 : ∀ (σ : St), Ab sy_cu κ 77 [sy_vr 0, none, none] [] σ (E39_77  σ)) : ∀ (n : Nat) (x5 : Int32) (σ : St), Ab sy_cu κ 39 [sy_vr 0, sy_vi x5, none] [] σ (m6_searchSpare_L39  E39_60 E39_77 n x5 σ) := by
  intro n
  induction n with
  | zero => intros; exact ab_none
  | succ n ih => exact fun x5 σ => m6_searchSpare_L39b_ok hκ   ih hE39_60 hE39_77 x5 σ
def m6_searchSpare_L94b (K94 : Int32 → Int32 → St → Option (Unit × St)) (E94_119 : Int32 → Int32 → St → Option (Unit × St)) (E94_136 : Int32 → St → Option (Unit × St)) (x14 : Int32) (x15 : Int32) (σ : St) : Option (Unit × St) := if (σ 5 10) ≤ x15 then (E94_136 x14 σ) else (sy_bd (m6_noneMissedWithout ((1 <<< (x14 &&& 31)) ||| (1 <<< (x15 &&& 31))) σ) (fun r17 σ16 => if r17 = 0 then (K94 x14 (x15 + 1) σ16) else (E94_119 x14 x15 σ16)))
def m6_searchSpare_L94 (E94_119 : Int32 → Int32 → St → Option (Unit × St)) (E94_136 : Int32 → St → Option (Unit × St)) : Nat → Int32 → Int32 → St → Option (Unit × St)
  | 0 => fun _ _ _ => none
  | n + 1 => m6_searchSpare_L94b  (m6_searchSpare_L94  E94_119 E94_136 n) E94_119 E94_136
set_option maxRecDepth 100000 in
set_option maxHeartbeats 4000000 in
theorem m6_searchSpare_L94b_ok {κ : Kx} (hκ : Gd κ cX6_searchSpare 3 RX6 none 4) {K94 : Int32 → Int32 → St → Option (Unit × St)} (hK94 : ∀ (x14 : Int32) (x15 : Int32) (σ : St), Ab sy_cu κ 94 [sy_vr 0, sy_vi x14, sy_vi x15] [] σ (K94 x14 x15 σ)) {E94_119 : Int32 → Int32 → St → Option (Unit × St)} (hE94_119 : ∀ (y1 : Int32) (y2 : Int32) (σ : St), Ab sy_cu κ 119 [sy_vr 0, sy_vi y1, sy_vi y2] [] σ (E94_119 y1 y2 σ)) {E94_136 : Int32 → St → Option (Unit × St)} (hE94_136 : ∀ (y1 : Int32) (σ : St), Ab sy_cu κ 136 [sy_vr 0, sy_vi y1, none] [] σ (E94_136 y1 σ)) (x14 : Int32) (x15 : Int32) (σ : St) : Ab sy_cu κ 94 [sy_vr 0, sy_vi x14, sy_vi x15] [] σ (m6_searchSpare_L94b  K94 E94_119 E94_136 x14 x15 σ) := by
  unfold m6_searchSpare_L94b
  refine ab_iload_n hκ dX6_searchSpare_94 rfl ?_
  refine ab_aload_n hκ dX6_searchSpare_95 rfl ?_
  refine ab_getf (v := .ref 5) hκ (sy_o6 rfl) kf_RX6_24 rfl dX6_searchSpare_96 rfl ?_
  refine ab_getf (v := .int (σ 5 10)) hκ (sy_o0 (Or.inl rfl)) kf_RX6_142 rfl dX6_searchSpare_99 rfl ?_
  refine ab_icmp_ge (tgt := 136) hκ dX6_searchSpare_102 rfl ?_ ?_
  · refine ab_fg (lv' := [sy_vr 0, sy_vi x14, none]) [2] rfl ?_
    exact hE94_136 x14 σ
  · refine ab_aload_n hκ dX6_searchSpare_105 rfl ?_
    refine ab_iconst (v := 1) hκ dX6_searchSpare_106 rfl ?_
    refine ab_iload_n hκ dX6_searchSpare_107 rfl ?_
    refine ab_ishl hκ dX6_searchSpare_108 ?_
    refine ab_iconst (v := 1) hκ dX6_searchSpare_109 rfl ?_
    refine ab_iload_n hκ dX6_searchSpare_110 rfl ?_
    refine ab_ishl hκ dX6_searchSpare_111 ?_
    refine ab_ior hκ dX6_searchSpare_112 ?_
    refine ab_cVi (vs := [.int ((1 <<< (x14 &&& 31)) ||| (1 <<< (x15 &&& 31)))]) (st := []) hκ dX6_searchSpare_113 kl_RX6_400 ki_X6_noneMissedWithout kv_X6_noneMissedWithout (sy_o6 rfl) rfl rfl (m6_noneMissedWithout_ok ((1 <<< (x14 &&& 31)) ||| (1 <<< (x15 &&& 31))) σ) rfl (by decide) (Nat.le_of_ble_eq_true rfl) rfl (fun r17 σ16 => ?_)
    refine ab_if_eq (tgt := 130) hκ dX6_searchSpare_116 rfl ?_ ?_
    · refine ab_iinc (v := (x15 + 1)) (lv' := [sy_vr 0, sy_vi x14, sy_vi (x15 + 1)]) hκ dX6_searchSpare_130 rfl rfl (by decide) rfl ?_
      refine ab_goto (tgt := 94) hκ dX6_searchSpare_133 rfl ?_
      exact hK94 x14 (x15 + 1) σ16
    · exact hE94_119 x14 x15 σ16
theorem m6_searchSpare_L94_ok {κ : Kx} (hκ : Gd κ cX6_searchSpare 3 RX6 none 4) {E94_119 : Int32 → Int32 → St → Option (Unit × St)} (hE94_119 : ∀ (y1 : Int32) (y2 : Int32) (σ : St), Ab sy_cu κ 119 [sy_vr 0, sy_vi y1, sy_vi y2] [] σ (E94_119 y1 y2 σ)) {E94_136 : Int32 → St → Option (Unit × St)} (hE94_136 : ∀ (y1 : Int32) (σ : St), Ab sy_cu κ 136 [sy_vr 0, sy_vi y1, none] [] σ (E94_136 y1 σ)) : ∀ (n : Nat) (x14 : Int32) (x15 : Int32) (σ : St), Ab sy_cu κ 94 [sy_vr 0, sy_vi x14, sy_vi x15] [] σ (m6_searchSpare_L94  E94_119 E94_136 n x14 x15 σ) := by
  intro n
  induction n with
  | zero => intros; exact ab_none
  | succ n ih => exact fun x14 x15 σ => m6_searchSpare_L94b_ok hκ   ih hE94_119 hE94_136 x14 x15 σ
def m6_searchSpare_L79b (K79 : Int32 → St → Option (Unit × St)) (E79_119 : Int32 → Int32 → St → Option (Unit × St)) (E79_142 : St → Option (Unit × St)) (x12 : Int32) (σ : St) : Option (Unit × St) := if (σ 5 10) ≤ x12 then (E79_142  σ) else (sy_lt (x12 + 1) (fun v13 => m6_searchSpare_L94 (fun y18 y19 σ20 => E79_119 y18 y19 σ20) (fun y21 σ22 => K79 (y21 + 1) σ22) sy_FU x12 v13 σ))
def m6_searchSpare_L79 (E79_119 : Int32 → Int32 → St → Option (Unit × St)) (E79_142 : St → Option (Unit × St)) : Nat → Int32 → St → Option (Unit × St)
  | 0 => fun _ _ => none
  | n + 1 => m6_searchSpare_L79b  (m6_searchSpare_L79  E79_119 E79_142 n) E79_119 E79_142
set_option maxRecDepth 100000 in
set_option maxHeartbeats 4000000 in
theorem m6_searchSpare_L79b_ok {κ : Kx} (hκ : Gd κ cX6_searchSpare 3 RX6 none 4) {K79 : Int32 → St → Option (Unit × St)} (hK79 : ∀ (x12 : Int32) (σ : St), Ab sy_cu κ 79 [sy_vr 0, sy_vi x12, none] [] σ (K79 x12 σ)) {E79_119 : Int32 → Int32 → St → Option (Unit × St)} (hE79_119 : ∀ (y1 : Int32) (y2 : Int32) (σ : St), Ab sy_cu κ 119 [sy_vr 0, sy_vi y1, sy_vi y2] [] σ (E79_119 y1 y2 σ)) {E79_142 : St → Option (Unit × St)} (hE79_142 : ∀ (σ : St), Ab sy_cu κ 142 [none, none, none] [] σ (E79_142  σ)) (x12 : Int32) (σ : St) : Ab sy_cu κ 79 [sy_vr 0, sy_vi x12, none] [] σ (m6_searchSpare_L79b  K79 E79_119 E79_142 x12 σ) := by
  unfold m6_searchSpare_L79b
  refine ab_iload_n hκ dX6_searchSpare_79 rfl ?_
  refine ab_aload_n hκ dX6_searchSpare_80 rfl ?_
  refine ab_getf (v := .ref 5) hκ (sy_o6 rfl) kf_RX6_24 rfl dX6_searchSpare_81 rfl ?_
  refine ab_getf (v := .int (σ 5 10)) hκ (sy_o0 (Or.inl rfl)) kf_RX6_142 rfl dX6_searchSpare_84 rfl ?_
  refine ab_icmp_ge (tgt := 142) hκ dX6_searchSpare_87 rfl ?_ ?_
  · refine ab_fg (lv' := [none, none, none]) [0, 1] rfl ?_
    exact hE79_142  σ
  · refine ab_iload_n hκ dX6_searchSpare_90 rfl ?_
    refine ab_iconst (v := 1) hκ dX6_searchSpare_91 rfl ?_
    refine ab_iadd hκ dX6_searchSpare_92 ?_
    refine ab_lti (fun v13 => ?_)
    refine ab_istore_n (lv' := [sy_vr 0, sy_vi x12, sy_vi v13]) hκ dX6_searchSpare_93 rfl (by decide) rfl ?_
    refine m6_searchSpare_L94_ok hκ ?_ ?_ _ _ _ _
    · intro y18 y19 σ20
      exact hE79_119 y18 y19 σ20
    · intro y21 σ22
      refine ab_iinc (v := (y21 + 1)) (lv' := [sy_vr 0, sy_vi (y21 + 1), none]) hκ dX6_searchSpare_136 rfl rfl (by decide) rfl ?_
      refine ab_goto (tgt := 79) hκ dX6_searchSpare_139 rfl ?_
      exact hK79 (y21 + 1) σ22
theorem m6_searchSpare_L79_ok {κ : Kx} (hκ : Gd κ cX6_searchSpare 3 RX6 none 4) {E79_119 : Int32 → Int32 → St → Option (Unit × St)} (hE79_119 : ∀ (y1 : Int32) (y2 : Int32) (σ : St), Ab sy_cu κ 119 [sy_vr 0, sy_vi y1, sy_vi y2] [] σ (E79_119 y1 y2 σ)) {E79_142 : St → Option (Unit × St)} (hE79_142 : ∀ (σ : St), Ab sy_cu κ 142 [none, none, none] [] σ (E79_142  σ)) : ∀ (n : Nat) (x12 : Int32) (σ : St), Ab sy_cu κ 79 [sy_vr 0, sy_vi x12, none] [] σ (m6_searchSpare_L79  E79_119 E79_142 n x12 σ) := by
  intro n
  induction n with
  | zero => intros; exact ab_none
  | succ n ih => exact fun x12 σ => m6_searchSpare_L79b_ok hκ   ih hE79_119 hE79_142 x12 σ
def m6_searchSpare (σ : St) : Option (Unit × St) := sy_bd (m0_become 15 5 σ) (fun _ σ1 => sy_bd (m1_begin 49 σ1) (fun _ σ2 => sy_bd (m6_noneMissedWithout 0 σ2) (fun r4 σ3 => if r4 = 0 then (m6_searchSpare_L39 (fun y8 σ9 => sy_bd (m1_offer 49 y8 (-1) 1 σ9) (fun _ σ10 => some ((), σ10))) (fun  σ11 => m6_searchSpare_L79 (fun y23 y24 σ25 => sy_bd (m1_offer 49 y23 y24 2 σ25) (fun _ σ26 => some ((), σ26))) (fun  σ27 => some ((), σ27)) sy_FU 0 σ11) sy_FU 0 σ3) else (sy_bd (m1_offer 49 (-1) (-1) 0 σ3) (fun _ σ28 => some ((), σ28))))))
set_option maxRecDepth 100000 in
set_option maxHeartbeats 4000000 in
theorem m6_searchSpare_ok (σ : St) : Cok sy_cu yX6_searchSpare cX6_searchSpare 3 none 4 [.ref 0] σ (m6_searchSpare σ) := by
  refine cok_of (own := RX6) (by decide) rfl (fun ad => Nat.le_of_ble_eq_true rfl) (fun κ hκ => ?_)
  show Ab sy_cu κ 0 [sy_vr 0, none, none] [] σ (m6_searchSpare σ)
  unfold m6_searchSpare
  refine ab_aload_n hκ dX6_searchSpare_0 rfl ?_
  refine ab_getf (v := .ref 15) hκ (sy_o6 rfl) kf_RX6_28 rfl dX6_searchSpare_1 rfl ?_
  refine ab_aload_n hκ dX6_searchSpare_4 rfl ?_
  refine ab_getf (v := .ref 5) hκ (sy_o6 rfl) kf_RX6_24 rfl dX6_searchSpare_5 rfl ?_
  refine ab_cVv (vs := [.ref 5]) (st := []) hκ dX6_searchSpare_8 kl_RX6_224 ki_X0_become kv_X0_become (sy_o0 (Or.inr rfl)) rfl rfl (m0_become_ok 15 5 (Or.inr rfl) (Or.inl rfl) σ) rfl (by decide) (Nat.le_of_ble_eq_true rfl) rfl (fun _ σ1 => ?_)
  refine ab_aload_n hκ dX6_searchSpare_11 rfl ?_
  refine ab_getf (v := .ref 49) hκ (sy_o6 rfl) kf_RX6_61 rfl dX6_searchSpare_12 rfl ?_
  refine ab_cVv (vs := []) (st := []) hκ dX6_searchSpare_15 kl_RX6_384 ki_X1_begin kv_X1_begin (sy_o1 (Or.inr (Or.inr (Or.inr rfl)))) rfl rfl (m1_begin_ok 49 (Or.inr (Or.inr (Or.inr rfl))) σ1) rfl (by decide) (Nat.le_of_ble_eq_true rfl) rfl (fun _ σ2 => ?_)
  refine ab_aload_n hκ dX6_searchSpare_18 rfl ?_
  refine ab_iconst (v := 0) hκ dX6_searchSpare_19 rfl ?_
  refine ab_cVi (vs := [.int 0]) (st := []) hκ dX6_searchSpare_20 kl_RX6_400 ki_X6_noneMissedWithout kv_X6_noneMissedWithout (sy_o6 rfl) rfl rfl (m6_noneMissedWithout_ok 0 σ2) rfl (by decide) (Nat.le_of_ble_eq_true rfl) rfl (fun r4 σ3 => ?_)
  refine ab_if_eq (tgt := 37) hκ dX6_searchSpare_23 rfl ?_ ?_
  · refine ab_iconst (v := 0) hκ dX6_searchSpare_37 rfl ?_
    refine ab_istore_n (lv' := [sy_vr 0, sy_vi 0, none]) hκ dX6_searchSpare_38 rfl (by decide) rfl ?_
    refine m6_searchSpare_L39_ok hκ ?_ ?_ _ _ _
    · intro y8 σ9
      refine ab_aload_n hκ dX6_searchSpare_60 rfl ?_
      refine ab_getf (v := .ref 49) hκ (sy_o6 rfl) kf_RX6_61 rfl dX6_searchSpare_61 rfl ?_
      refine ab_iload_n hκ dX6_searchSpare_64 rfl ?_
      refine ab_iconst (v := (-1)) hκ dX6_searchSpare_65 rfl ?_
      refine ab_iconst (v := 1) hκ dX6_searchSpare_66 rfl ?_
      refine ab_cVv (vs := [.int y8, .int (-1), .int 1]) (st := []) hκ dX6_searchSpare_67 kl_RX6_390 ki_X1_offer kv_X1_offer (sy_o1 (Or.inr (Or.inr (Or.inr rfl)))) rfl rfl (m1_offer_ok 49 y8 (-1) 1 (Or.inr (Or.inr (Or.inr rfl))) σ9) rfl (by decide) (Nat.le_of_ble_eq_true rfl) rfl (fun _ σ10 => ?_)
      exact ab_vret hκ dX6_searchSpare_70
    · intro  σ11
      refine ab_iconst (v := 0) hκ dX6_searchSpare_77 rfl ?_
      refine ab_istore_n (lv' := [sy_vr 0, sy_vi 0, none]) hκ dX6_searchSpare_78 rfl (by decide) rfl ?_
      refine m6_searchSpare_L79_ok hκ ?_ ?_ _ _ _
      · intro y23 y24 σ25
        refine ab_aload_n hκ dX6_searchSpare_119 rfl ?_
        refine ab_getf (v := .ref 49) hκ (sy_o6 rfl) kf_RX6_61 rfl dX6_searchSpare_120 rfl ?_
        refine ab_iload_n hκ dX6_searchSpare_123 rfl ?_
        refine ab_iload_n hκ dX6_searchSpare_124 rfl ?_
        refine ab_iconst (v := 2) hκ dX6_searchSpare_125 rfl ?_
        refine ab_cVv (vs := [.int y23, .int y24, .int 2]) (st := []) hκ dX6_searchSpare_126 kl_RX6_390 ki_X1_offer kv_X1_offer (sy_o1 (Or.inr (Or.inr (Or.inr rfl)))) rfl rfl (m1_offer_ok 49 y23 y24 2 (Or.inr (Or.inr (Or.inr rfl))) σ25) rfl (by decide) (Nat.le_of_ble_eq_true rfl) rfl (fun _ σ26 => ?_)
        exact ab_vret hκ dX6_searchSpare_129
      · intro  σ27
        exact ab_vret hκ dX6_searchSpare_142
  · refine ab_aload_n hκ dX6_searchSpare_26 rfl ?_
    refine ab_getf (v := .ref 49) hκ (sy_o6 rfl) kf_RX6_61 rfl dX6_searchSpare_27 rfl ?_
    refine ab_iconst (v := (-1)) hκ dX6_searchSpare_30 rfl ?_
    refine ab_iconst (v := (-1)) hκ dX6_searchSpare_31 rfl ?_
    refine ab_iconst (v := 0) hκ dX6_searchSpare_32 rfl ?_
    refine ab_cVv (vs := [.int (-1), .int (-1), .int 0]) (st := []) hκ dX6_searchSpare_33 kl_RX6_390 ki_X1_offer kv_X1_offer (sy_o1 (Or.inr (Or.inr (Or.inr rfl)))) rfl rfl (m1_offer_ok 49 (-1) (-1) 0 (Or.inr (Or.inr (Or.inr rfl))) σ3) rfl (by decide) (Nat.le_of_ble_eq_true rfl) rfl (fun _ σ28 => ?_)
    exact ab_vret hκ dX6_searchSpare_36
-- BreathBand.spare(I)I, depth 5
def m6_spare_J26 (x3 : Int32)  (σ : St) : Option (Int32 × St) := if x3 = (-1) then (some ((σ 49 3), σ)) else (if x3 = 0 then (some ((σ 49 1), σ)) else (some ((σ 49 2), σ)))
set_option maxRecDepth 100000 in
set_option maxHeartbeats 4000000 in
theorem m6_spare_J26_ok {κ : Kx} (hκ : Gd κ cX6_spare 2 RX6 (some .int) 5) (x3 : Int32) (σ : St) : Ab sy_vi κ 26 [sy_vr 0, sy_vi x3] [] σ (m6_spare_J26 x3 σ) := by
  unfold m6_spare_J26
  refine ab_iload_n hκ dX6_spare_26 rfl ?_
  refine ab_iconst (v := (-1)) hκ dX6_spare_27 rfl ?_
  refine ab_icmp_ne (tgt := 39) hκ dX6_spare_28 rfl ?_ ?_
  · refine ab_iload_n hκ dX6_spare_39 rfl ?_
    refine ab_if_ne (tgt := 53) hκ dX6_spare_40 rfl ?_ ?_
    · refine ab_aload_n hκ dX6_spare_53 rfl ?_
      refine ab_getf (v := .ref 49) hκ (sy_o6 rfl) kf_RX6_61 rfl dX6_spare_54 rfl ?_
      refine ab_getf (v := .int (σ 49 2)) hκ (sy_o1 (Or.inr (Or.inr (Or.inr rfl)))) kf_RX6_211 rfl dX6_spare_57 rfl ?_
      exact ab_iret hκ dX6_spare_60
    · refine ab_aload_n hκ dX6_spare_43 rfl ?_
      refine ab_getf (v := .ref 49) hκ (sy_o6 rfl) kf_RX6_61 rfl dX6_spare_44 rfl ?_
      refine ab_getf (v := .int (σ 49 1)) hκ (sy_o1 (Or.inr (Or.inr (Or.inr rfl)))) kf_RX6_202 rfl dX6_spare_47 rfl ?_
      refine ab_goto (tgt := 60) hκ dX6_spare_50 rfl ?_
      exact ab_iret hκ dX6_spare_60
  · refine ab_aload_n hκ dX6_spare_31 rfl ?_
    refine ab_getf (v := .ref 49) hκ (sy_o6 rfl) kf_RX6_61 rfl dX6_spare_32 rfl ?_
    refine ab_getf (v := .int (σ 49 3)) hκ (sy_o1 (Or.inr (Or.inr (Or.inr rfl)))) kf_RX6_205 rfl dX6_spare_35 rfl ?_
    exact ab_iret hκ dX6_spare_38
def m6_spare (a1 : Int32) (σ : St) : Option (Int32 × St) := sy_bd (m6_within a1 (-1) 1 σ) (fun r2 σ1 => if r2 = 0 then (some ((-2), σ1)) else (if (σ1 49 0) = 0 then (sy_bd (m6_searchSpare σ1) (fun _ σ4 => m6_spare_J26 a1 σ4)) else (m6_spare_J26 a1 σ1)))
set_option maxRecDepth 100000 in
set_option maxHeartbeats 4000000 in
theorem m6_spare_ok (a1 : Int32) (σ : St) : Cok sy_vi yX6_spare cX6_spare 2 (some .int) 5 [.ref 0, .int a1] σ (m6_spare a1 σ) := by
  refine cok_of (own := RX6) (by decide) rfl (fun ad => Nat.le_of_ble_eq_true rfl) (fun κ hκ => ?_)
  show Ab sy_vi κ 0 [sy_vr 0, sy_vi a1] [] σ (m6_spare a1 σ)
  unfold m6_spare
  refine ab_iload_n hκ dX6_spare_0 rfl ?_
  refine ab_iconst (v := (-1)) hκ dX6_spare_1 rfl ?_
  refine ab_iconst (v := 1) hκ dX6_spare_2 rfl ?_
  refine ab_cSi (vs := [.int a1, .int (-1), .int 1]) (st := []) hκ dX6_spare_3 kl_RX6_89 ki_X6_within kv_X6_within (m6_within_ok a1 (-1) 1 σ) rfl (by decide) (Nat.le_of_ble_eq_true rfl) rfl (fun r2 σ1 => ?_)
  refine ab_if_ne (tgt := 12) hκ dX6_spare_6 rfl ?_ ?_
  · refine ab_aload_n hκ dX6_spare_12 rfl ?_
    refine ab_getf (v := .ref 49) hκ (sy_o6 rfl) kf_RX6_61 rfl dX6_spare_13 rfl ?_
    refine ab_getf (v := .int (σ1 49 0)) hκ (sy_o1 (Or.inr (Or.inr (Or.inr rfl)))) kf_RX6_196 rfl dX6_spare_16 rfl ?_
    refine ab_if_ne (tgt := 26) hκ dX6_spare_19 rfl ?_ ?_
    · exact m6_spare_J26_ok hκ a1 σ1
    · refine ab_aload_n hκ dX6_spare_22 rfl ?_
      refine ab_cVv (vs := []) (st := []) hκ dX6_spare_23 kl_RX6_217 ki_X6_searchSpare kv_X6_searchSpare (sy_o6 rfl) rfl rfl (m6_searchSpare_ok σ1) rfl (by decide) (Nat.le_of_ble_eq_true rfl) rfl (fun _ σ4 => ?_)
      exact m6_spare_J26_ok hκ a1 σ4
  · refine ab_bipush (v := (-2)) hκ dX6_spare_9 rfl ?_
    exact ab_iret hκ dX6_spare_11
-- BreathBand$Ear.remember(II)Z, depth 0
def m2_remember (this : Nat) (a1 : Int32) (a2 : Int32) (σ : St) : Option (Int32 × St) := if (σ this 2) < 8 then (sy_gd (σ this 2) 8 (sy_lt (sy_sf σ (this + 1) (sy_ix (σ this 2)) a1) (fun σ1 => sy_gd (σ1 this 2) 8 (sy_lt (sy_sf σ1 (this + 2) (sy_ix (σ1 this 2)) a2) (fun σ2 => sy_lt (sy_sf σ2 this 2 ((σ2 this 2) + 1)) (fun σ3 => sy_zg 1 (some (1, σ3)))))))) else (sy_zg 0 (some (0, σ)))
set_option maxRecDepth 100000 in
set_option maxHeartbeats 4000000 in
theorem m2_remember_ok (this : Nat) (a1 : Int32) (a2 : Int32) (hthis : sy_is2 this) (σ : St) : Cok sy_vi yX2_remember cX2_remember 3 (some .boolean) 0 [.ref this, .int a1, .int a2] σ (m2_remember this a1 a2 σ) := by
  refine cok_of (own := RX2) (by decide) rfl (fun ad => Nat.le_of_ble_eq_true rfl) (fun κ hκ => ?_)
  show Ab sy_vi κ 0 [sy_vr this, sy_vi a1, sy_vi a2] [] σ (m2_remember this a1 a2 σ)
  unfold m2_remember
  refine ab_aload_n hκ dX2_remember_0 rfl ?_
  refine ab_getf (v := .int (σ this 2)) hκ (sy_o2 hthis) kf_RX2_18 rfl dX2_remember_1 rfl ?_
  refine ab_bipush (v := 8) hκ dX2_remember_4 rfl ?_
  refine ab_icmp_lt (tgt := 11) hκ dX2_remember_6 rfl ?_ ?_
  · refine ab_aload_n hκ dX2_remember_11 rfl ?_
    refine ab_getf (v := .ref (this + 1)) hκ (sy_o2 hthis) kf_RX2_9 rfl dX2_remember_12 rfl ?_
    refine ab_aload_n hκ dX2_remember_15 rfl ?_
    refine ab_getf (v := .int (σ this 2)) hκ (sy_o2 hthis) kf_RX2_18 rfl dX2_remember_16 rfl ?_
    refine ab_iload_n hκ dX2_remember_19 rfl ?_
    refine ab_iast hκ (sy_a2_0 hthis) dX2_remember_20 ?_
    refine ab_lts (fun σ1 => ?_)
    refine ab_aload_n hκ dX2_remember_21 rfl ?_
    refine ab_getf (v := .ref (this + 2)) hκ (sy_o2 hthis) kf_RX2_15 rfl dX2_remember_22 rfl ?_
    refine ab_aload_n hκ dX2_remember_25 rfl ?_
    refine ab_getf (v := .int (σ1 this 2)) hκ (sy_o2 hthis) kf_RX2_18 rfl dX2_remember_26 rfl ?_
    refine ab_iload_n hκ dX2_remember_29 rfl ?_
    refine ab_iast hκ (sy_a2_1 hthis) dX2_remember_30 ?_
    refine ab_lts (fun σ2 => ?_)
    refine ab_aload_n hκ dX2_remember_31 rfl ?_
    refine ab_dupa hκ dX2_remember_32 ?_
    refine ab_getf (v := .int (σ2 this 2)) hκ (sy_o2 hthis) kf_RX2_18 rfl dX2_remember_33 rfl ?_
    refine ab_iconst (v := 1) hκ dX2_remember_36 rfl ?_
    refine ab_iadd hκ dX2_remember_37 ?_
    refine ab_putf hκ (sy_o2 hthis) kp_RX2_18 rfl dX2_remember_38 ?_
    refine ab_lts (fun σ3 => ?_)
    refine ab_iconst (v := 1) hκ dX2_remember_41 rfl ?_
    exact ab_zret hκ dX2_remember_42
  · refine ab_iconst (v := 0) hκ dX2_remember_9 rfl ?_
    exact ab_zret hκ dX2_remember_10
-- BreathBand.hear(II)I, depth 1
def m6_hear (a1 : Int32) (a2 : Int32) (σ : St) : Option (Int32 × St) := sy_bd (m6_within a1 0 15 σ) (fun r2 σ1 => if r2 = 0 then (some ((-2), σ1)) else (sy_bd (m6_within a2 0 2 σ1) (fun r4 σ3 => if r4 = 0 then (some ((-2), σ3)) else (sy_bd (m2_remember 43 a1 a2 σ3) (fun r6 σ5 => if r6 = 0 then (some ((-4), σ5)) else (some ((σ5 43 2), σ5)))))))
set_option maxRecDepth 100000 in
set_option maxHeartbeats 4000000 in
theorem m6_hear_ok (a1 : Int32) (a2 : Int32) (σ : St) : Cok sy_vi yX6_hear cX6_hear 3 (some .int) 1 [.ref 0, .int a1, .int a2] σ (m6_hear a1 a2 σ) := by
  refine cok_of (own := RX6) (by decide) rfl (fun ad => Nat.le_of_ble_eq_true rfl) (fun κ hκ => ?_)
  show Ab sy_vi κ 0 [sy_vr 0, sy_vi a1, sy_vi a2] [] σ (m6_hear a1 a2 σ)
  unfold m6_hear
  refine ab_iload_n hκ dX6_hear_0 rfl ?_
  refine ab_iconst (v := 0) hκ dX6_hear_1 rfl ?_
  refine ab_bipush (v := 15) hκ dX6_hear_2 rfl ?_
  refine ab_cSi (vs := [.int a1, .int 0, .int 15]) (st := []) hκ dX6_hear_4 kl_RX6_89 ki_X6_within kv_X6_within (m6_within_ok a1 0 15 σ) rfl (by decide) (Nat.le_of_ble_eq_true rfl) rfl (fun r2 σ1 => ?_)
  refine ab_if_eq (tgt := 19) hκ dX6_hear_7 rfl ?_ ?_
  · refine ab_bipush (v := (-2)) hκ dX6_hear_19 rfl ?_
    exact ab_iret hκ dX6_hear_21
  · refine ab_iload_n hκ dX6_hear_10 rfl ?_
    refine ab_iconst (v := 0) hκ dX6_hear_11 rfl ?_
    refine ab_iconst (v := 2) hκ dX6_hear_12 rfl ?_
    refine ab_cSi (vs := [.int a2, .int 0, .int 2]) (st := []) hκ dX6_hear_13 kl_RX6_89 ki_X6_within kv_X6_within (m6_within_ok a2 0 2 σ1) rfl (by decide) (Nat.le_of_ble_eq_true rfl) rfl (fun r4 σ3 => ?_)
    refine ab_if_ne (tgt := 22) hκ dX6_hear_16 rfl ?_ ?_
    · refine ab_aload_n hκ dX6_hear_22 rfl ?_
      refine ab_getf (v := .ref 43) hκ (sy_o6 rfl) kf_RX6_44 rfl dX6_hear_23 rfl ?_
      refine ab_iload_n hκ dX6_hear_26 rfl ?_
      refine ab_iload_n hκ dX6_hear_27 rfl ?_
      refine ab_cVi (vs := [.int a1, .int a2]) (st := []) hκ dX6_hear_28 kl_RX6_220 ki_X2_remember kv_X2_remember (sy_o2 rfl) rfl rfl (m2_remember_ok 43 a1 a2 rfl σ3) rfl (by decide) (Nat.le_of_ble_eq_true rfl) rfl (fun r6 σ5 => ?_)
      refine ab_if_ne (tgt := 37) hκ dX6_hear_31 rfl ?_ ?_
      · refine ab_aload_n hκ dX6_hear_37 rfl ?_
        refine ab_getf (v := .ref 43) hκ (sy_o6 rfl) kf_RX6_44 rfl dX6_hear_38 rfl ?_
        refine ab_getf (v := .int (σ5 43 2)) hκ (sy_o2 rfl) kf_RX6_223 rfl dX6_hear_41 rfl ?_
        exact ab_iret hκ dX6_hear_44
      · refine ab_bipush (v := (-4)) hκ dX6_hear_34 rfl ?_
        exact ab_iret hκ dX6_hear_36
    · refine ab_bipush (v := (-2)) hκ dX6_hear_19 rfl ?_
      exact ab_iret hκ dX6_hear_21
-- BreathBand.forget()I, depth 0
def m6_forget (σ : St) : Option (Int32 × St) := sy_lt (σ 43 2) (fun v1 => sy_lt (sy_sf σ 43 2 0) (fun σ2 => some (v1, σ2)))
set_option maxRecDepth 100000 in
set_option maxHeartbeats 4000000 in
theorem m6_forget_ok (σ : St) : Cok sy_vi yX6_forget cX6_forget 2 (some .int) 0 [.ref 0] σ (m6_forget σ) := by
  refine cok_of (own := RX6) (by decide) rfl (fun ad => Nat.le_of_ble_eq_true rfl) (fun κ hκ => ?_)
  show Ab sy_vi κ 0 [sy_vr 0, none] [] σ (m6_forget σ)
  unfold m6_forget
  refine ab_aload_n hκ dX6_forget_0 rfl ?_
  refine ab_getf (v := .ref 43) hκ (sy_o6 rfl) kf_RX6_44 rfl dX6_forget_1 rfl ?_
  refine ab_getf (v := .int (σ 43 2)) hκ (sy_o2 rfl) kf_RX6_223 rfl dX6_forget_4 rfl ?_
  refine ab_lti (fun v1 => ?_)
  refine ab_istore_n (lv' := [sy_vr 0, sy_vi v1]) hκ dX6_forget_7 rfl (by decide) rfl ?_
  refine ab_aload_n hκ dX6_forget_8 rfl ?_
  refine ab_getf (v := .ref 43) hκ (sy_o6 rfl) kf_RX6_44 rfl dX6_forget_9 rfl ?_
  refine ab_iconst (v := 0) hκ dX6_forget_12 rfl ?_
  refine ab_putf hκ (sy_o2 rfl) kp_RX6_223 rfl dX6_forget_13 ?_
  refine ab_lts (fun σ2 => ?_)
  refine ab_iload_n hκ dX6_forget_16 rfl ?_
  exact ab_iret hκ dX6_forget_17
-- BreathBand$Ear.fits(LBreathBand$Run;I)Z, depth 0
def m2_fits_L2b (c1 : Nat) (c3 : Nat) (K2 : Int32 → Int32 → St → Option (Int32 × St)) (x5 : Int32) (x6 : Int32) (σ : St) : Option (Int32 × St) := if (σ c1 2) ≤ x6 then (sy_zg 1 (some (1, σ))) else (sy_gd x6 8 (if x5 ≤ (σ (c1 + 1) (sy_ix x6)) then (sy_zg 0 (some (0, σ))) else (sy_gd x6 8 (sy_gd (σ (c1 + 1) (sy_ix x6)) 16 (sy_gd x6 8 (if (σ (c3 + 4) (sy_ix (σ (c1 + 1) (sy_ix x6)))) = (σ (c1 + 2) (sy_ix x6)) then (K2 x5 (x6 + 1) σ) else (sy_zg 0 (some (0, σ)))))))))
def m2_fits_L2 (c1 : Nat) (c3 : Nat) : Nat → Int32 → Int32 → St → Option (Int32 × St)
  | 0 => fun _ _ _ => none
  | n + 1 => m2_fits_L2b c1 c3 (m2_fits_L2 c1 c3  n) 
set_option maxRecDepth 100000 in
set_option maxHeartbeats 4000000 in
theorem m2_fits_L2b_ok {κ : Kx} (hκ : Gd κ cX2_fits 4 RX2 (some .boolean) 0) (c1 : Nat) (c3 : Nat) (h2 : sy_is2 c1) (h4 : sy_is3 c3) {K2 : Int32 → Int32 → St → Option (Int32 × St)} (hK2 : ∀ (x5 : Int32) (x6 : Int32) (σ : St), Ab sy_vi κ 2 [sy_vr c1, sy_vr c3, sy_vi x5, sy_vi x6] [] σ (K2 x5 x6 σ)) (x5 : Int32) (x6 : Int32) (σ : St) : Ab sy_vi κ 2 [sy_vr c1, sy_vr c3, sy_vi x5, sy_vi x6] [] σ (m2_fits_L2b c1 c3 K2 x5 x6 σ) := by
  unfold m2_fits_L2b
  refine ab_iload_n hκ dX2_fits_2 rfl ?_
  refine ab_aload_n hκ dX2_fits_3 rfl ?_
  refine ab_getf (v := .int (σ c1 2)) hκ (sy_o2 h2) kf_RX2_18 rfl dX2_fits_4 rfl ?_
  refine ab_icmp_ge (tgt := 48) hκ dX2_fits_7 rfl ?_ ?_
  · refine ab_iconst (v := 1) hκ dX2_fits_48 rfl ?_
    exact ab_zret hκ dX2_fits_49
  · refine ab_aload_n hκ dX2_fits_10 rfl ?_
    refine ab_getf (v := .ref (c1 + 1)) hκ (sy_o2 h2) kf_RX2_9 rfl dX2_fits_11 rfl ?_
    refine ab_iload_n hκ dX2_fits_14 rfl ?_
    refine ab_iald hκ (sy_a2_0 h2) dX2_fits_15 ?_
    refine ab_iload_n hκ dX2_fits_16 rfl ?_
    refine ab_icmp_ge (tgt := 40) hκ dX2_fits_17 rfl ?_ ?_
    · refine ab_iconst (v := 0) hκ dX2_fits_40 rfl ?_
      exact ab_zret hκ dX2_fits_41
    · refine ab_aload_n hκ dX2_fits_20 rfl ?_
      refine ab_getf (v := .ref (c3 + 4)) hκ (sy_o3 h4) kf_RX2_22 rfl dX2_fits_21 rfl ?_
      refine ab_aload_n hκ dX2_fits_24 rfl ?_
      refine ab_getf (v := .ref (c1 + 1)) hκ (sy_o2 h2) kf_RX2_9 rfl dX2_fits_25 rfl ?_
      refine ab_iload_n hκ dX2_fits_28 rfl ?_
      refine ab_iald hκ (sy_a2_0 h2) dX2_fits_29 ?_
      refine ab_iald hκ (sy_a3_3 h4) dX2_fits_30 ?_
      refine ab_aload_n hκ dX2_fits_31 rfl ?_
      refine ab_getf (v := .ref (c1 + 2)) hκ (sy_o2 h2) kf_RX2_15 rfl dX2_fits_32 rfl ?_
      refine ab_iload_n hκ dX2_fits_35 rfl ?_
      refine ab_iald hκ (sy_a2_1 h2) dX2_fits_36 ?_
      refine ab_icmp_eq (tgt := 42) hκ dX2_fits_37 rfl ?_ ?_
      · refine ab_iinc (v := (x6 + 1)) (lv' := [sy_vr c1, sy_vr c3, sy_vi x5, sy_vi (x6 + 1)]) hκ dX2_fits_42 rfl rfl (by decide) rfl ?_
        refine ab_goto (tgt := 2) hκ dX2_fits_45 rfl ?_
        exact hK2 x5 (x6 + 1) σ
      · refine ab_iconst (v := 0) hκ dX2_fits_40 rfl ?_
        exact ab_zret hκ dX2_fits_41
theorem m2_fits_L2_ok {κ : Kx} (hκ : Gd κ cX2_fits 4 RX2 (some .boolean) 0) (c1 : Nat) (c3 : Nat) (h2 : sy_is2 c1) (h4 : sy_is3 c3) : ∀ (n : Nat) (x5 : Int32) (x6 : Int32) (σ : St), Ab sy_vi κ 2 [sy_vr c1, sy_vr c3, sy_vi x5, sy_vi x6] [] σ (m2_fits_L2 c1 c3  n x5 x6 σ) := by
  intro n
  induction n with
  | zero => intros; exact ab_none
  | succ n ih => exact fun x5 x6 σ => m2_fits_L2b_ok hκ c1 c3 h2 h4 ih  x5 x6 σ
def m2_fits (this : Nat) (a1 : Nat) (a2 : Int32) (σ : St) : Option (Int32 × St) := m2_fits_L2 this a1 sy_FU a2 0 σ
set_option maxRecDepth 100000 in
set_option maxHeartbeats 4000000 in
theorem m2_fits_ok (this : Nat) (a1 : Nat) (a2 : Int32) (hthis : sy_is2 this) (ha1 : sy_is3 a1) (σ : St) : Cok sy_vi yX2_fits cX2_fits 4 (some .boolean) 0 [.ref this, .ref a1, .int a2] σ (m2_fits this a1 a2 σ) := by
  refine cok_of (own := RX2) (by decide) rfl (fun ad => Nat.le_of_ble_eq_true rfl) (fun κ hκ => ?_)
  show Ab sy_vi κ 0 [sy_vr this, sy_vr a1, sy_vi a2, none] [] σ (m2_fits this a1 a2 σ)
  unfold m2_fits
  refine ab_iconst (v := 0) hκ dX2_fits_0 rfl ?_
  refine ab_istore_n (lv' := [sy_vr this, sy_vr a1, sy_vi a2, sy_vi 0]) hκ dX2_fits_1 rfl (by decide) rfl ?_
  exact m2_fits_L2_ok hκ this a1 hthis ha1 _ _ _ _
-- BreathBand.triedFits()Z, depth 3
def m6_triedFits (σ : St) : Option (Int32 × St) := sy_bd (m3_play 34 15 σ) (fun _ σ1 => sy_bd (m2_fits 43 34 (σ1 15 5) σ1) (fun r3 σ2 => sy_zg r3 (some (r3, σ2))))
set_option maxRecDepth 100000 in
set_option maxHeartbeats 4000000 in
theorem m6_triedFits_ok (σ : St) : Cok sy_vi yX6_triedFits cX6_triedFits 1 (some .boolean) 3 [.ref 0] σ (m6_triedFits σ) := by
  refine cok_of (own := RX6) (by decide) rfl (fun ad => Nat.le_of_ble_eq_true rfl) (fun κ hκ => ?_)
  show Ab sy_vi κ 0 [sy_vr 0] [] σ (m6_triedFits σ)
  unfold m6_triedFits
  refine ab_aload_n hκ dX6_triedFits_0 rfl ?_
  refine ab_getf (v := .ref 34) hκ (sy_o6 rfl) kf_RX6_38 rfl dX6_triedFits_1 rfl ?_
  refine ab_aload_n hκ dX6_triedFits_4 rfl ?_
  refine ab_getf (v := .ref 15) hκ (sy_o6 rfl) kf_RX6_28 rfl dX6_triedFits_5 rfl ?_
  refine ab_cVv (vs := [.ref 15]) (st := []) hκ dX6_triedFits_8 kl_RX6_265 ki_X3_play kv_X3_play (sy_o3 (Or.inr rfl)) rfl rfl (m3_play_ok 34 15 (Or.inr rfl) (Or.inr rfl) σ) rfl (by decide) (Nat.le_of_ble_eq_true rfl) rfl (fun _ σ1 => ?_)
  refine ab_aload_n hκ dX6_triedFits_11 rfl ?_
  refine ab_getf (v := .ref 43) hκ (sy_o6 rfl) kf_RX6_44 rfl dX6_triedFits_12 rfl ?_
  refine ab_aload_n hκ dX6_triedFits_15 rfl ?_
  refine ab_getf (v := .ref 34) hκ (sy_o6 rfl) kf_RX6_38 rfl dX6_triedFits_16 rfl ?_
  refine ab_aload_n hκ dX6_triedFits_19 rfl ?_
  refine ab_getf (v := .ref 15) hκ (sy_o6 rfl) kf_RX6_28 rfl dX6_triedFits_20 rfl ?_
  refine ab_getf (v := .int (σ1 15 5)) hκ (sy_o0 (Or.inr rfl)) kf_RX6_120 rfl dX6_triedFits_23 rfl ?_
  refine ab_cVi (vs := [.ref 34, .int (σ1 15 5)]) (st := []) hκ dX6_triedFits_26 kl_RX6_380 ki_X2_fits kv_X2_fits (sy_o2 rfl) rfl rfl (m2_fits_ok 43 34 (σ1 15 5) rfl (Or.inr rfl) σ1) rfl (by decide) (Nat.le_of_ble_eq_true rfl) rfl (fun r3 σ2 => ?_)
  exact ab_zret hκ dX6_triedFits_29
-- BreathBand.never()I, depth 4
def m6_never_L15b (K15 : Int32 → Int32 → St → Option (Int32 × St)) (E15_55 : Int32 → St → Option (Int32 × St)) (x2 : Int32) (x3 : Int32) (σ : St) : Option (Int32 × St) := if (σ 5 10) ≤ x3 then (E15_55 x2 σ) else (sy_lt (sy_sf σ 15 13 (1 <<< (x3 &&& 31))) (fun σ4 => sy_bd (m6_triedFits σ4) (fun r6 σ5 => if r6 = 0 then (K15 x2 (x3 + 1) σ5) else (sy_lt (x2 ||| (1 <<< (x3 &&& 31))) (fun v7 => K15 v7 (x3 + 1) σ5)))))
def m6_never_L15 (E15_55 : Int32 → St → Option (Int32 × St)) : Nat → Int32 → Int32 → St → Option (Int32 × St)
  | 0 => fun _ _ _ => none
  | n + 1 => m6_never_L15b  (m6_never_L15  E15_55 n) E15_55
set_option maxRecDepth 100000 in
set_option maxHeartbeats 4000000 in
theorem m6_never_L15b_ok {κ : Kx} (hκ : Gd κ cX6_never 3 RX6 (some .int) 4) {K15 : Int32 → Int32 → St → Option (Int32 × St)} (hK15 : ∀ (x2 : Int32) (x3 : Int32) (σ : St), Ab sy_vi κ 15 [sy_vr 0, sy_vi x2, sy_vi x3] [] σ (K15 x2 x3 σ)) {E15_55 : Int32 → St → Option (Int32 × St)} (hE15_55 : ∀ (y1 : Int32) (σ : St), Ab sy_vi κ 55 [none, sy_vi y1, none] [] σ (E15_55 y1 σ)) (x2 : Int32) (x3 : Int32) (σ : St) : Ab sy_vi κ 15 [sy_vr 0, sy_vi x2, sy_vi x3] [] σ (m6_never_L15b  K15 E15_55 x2 x3 σ) := by
  unfold m6_never_L15b
  refine ab_iload_n hκ dX6_never_15 rfl ?_
  refine ab_aload_n hκ dX6_never_16 rfl ?_
  refine ab_getf (v := .ref 5) hκ (sy_o6 rfl) kf_RX6_24 rfl dX6_never_17 rfl ?_
  refine ab_getf (v := .int (σ 5 10)) hκ (sy_o0 (Or.inl rfl)) kf_RX6_142 rfl dX6_never_20 rfl ?_
  refine ab_icmp_ge (tgt := 55) hκ dX6_never_23 rfl ?_ ?_
  · refine ab_fg (lv' := [none, sy_vi x2, none]) [0, 2] rfl ?_
    exact hE15_55 x2 σ
  · refine ab_aload_n hκ dX6_never_26 rfl ?_
    refine ab_getf (v := .ref 15) hκ (sy_o6 rfl) kf_RX6_28 rfl dX6_never_27 rfl ?_
    refine ab_iconst (v := 1) hκ dX6_never_30 rfl ?_
    refine ab_iload_n hκ dX6_never_31 rfl ?_
    refine ab_ishl hκ dX6_never_32 ?_
    refine ab_putf hκ (sy_o0 (Or.inr rfl)) kp_RX6_228 rfl dX6_never_33 ?_
    refine ab_lts (fun σ4 => ?_)
    refine ab_aload_n hκ dX6_never_36 rfl ?_
    refine ab_cVi (vs := []) (st := []) hκ dX6_never_37 kl_RX6_231 ki_X6_triedFits kv_X6_triedFits (sy_o6 rfl) rfl rfl (m6_triedFits_ok σ4) rfl (by decide) (Nat.le_of_ble_eq_true rfl) rfl (fun r6 σ5 => ?_)
    refine ab_if_eq (tgt := 49) hκ dX6_never_40 rfl ?_ ?_
    · refine ab_iinc (v := (x3 + 1)) (lv' := [sy_vr 0, sy_vi x2, sy_vi (x3 + 1)]) hκ dX6_never_49 rfl rfl (by decide) rfl ?_
      refine ab_goto (tgt := 15) hκ dX6_never_52 rfl ?_
      exact hK15 x2 (x3 + 1) σ5
    · refine ab_iload_n hκ dX6_never_43 rfl ?_
      refine ab_iconst (v := 1) hκ dX6_never_44 rfl ?_
      refine ab_iload_n hκ dX6_never_45 rfl ?_
      refine ab_ishl hκ dX6_never_46 ?_
      refine ab_ior hκ dX6_never_47 ?_
      refine ab_lti (fun v7 => ?_)
      refine ab_istore_n (lv' := [sy_vr 0, sy_vi v7, sy_vi x3]) hκ dX6_never_48 rfl (by decide) rfl ?_
      refine ab_iinc (v := (x3 + 1)) (lv' := [sy_vr 0, sy_vi v7, sy_vi (x3 + 1)]) hκ dX6_never_49 rfl rfl (by decide) rfl ?_
      refine ab_goto (tgt := 15) hκ dX6_never_52 rfl ?_
      exact hK15 v7 (x3 + 1) σ5
theorem m6_never_L15_ok {κ : Kx} (hκ : Gd κ cX6_never 3 RX6 (some .int) 4) {E15_55 : Int32 → St → Option (Int32 × St)} (hE15_55 : ∀ (y1 : Int32) (σ : St), Ab sy_vi κ 55 [none, sy_vi y1, none] [] σ (E15_55 y1 σ)) : ∀ (n : Nat) (x2 : Int32) (x3 : Int32) (σ : St), Ab sy_vi κ 15 [sy_vr 0, sy_vi x2, sy_vi x3] [] σ (m6_never_L15  E15_55 n x2 x3 σ) := by
  intro n
  induction n with
  | zero => intros; exact ab_none
  | succ n ih => exact fun x2 x3 σ => m6_never_L15b_ok hκ   ih hE15_55 x2 x3 σ
def m6_never (σ : St) : Option (Int32 × St) := sy_bd (m0_become 15 5 σ) (fun _ σ1 => m6_never_L15 (fun y8 σ9 => some (y8, σ9)) sy_FU 0 0 σ1)
set_option maxRecDepth 100000 in
set_option maxHeartbeats 4000000 in
theorem m6_never_ok (σ : St) : Cok sy_vi yX6_never cX6_never 3 (some .int) 4 [.ref 0] σ (m6_never σ) := by
  refine cok_of (own := RX6) (by decide) rfl (fun ad => Nat.le_of_ble_eq_true rfl) (fun κ hκ => ?_)
  show Ab sy_vi κ 0 [sy_vr 0, none, none] [] σ (m6_never σ)
  unfold m6_never
  refine ab_aload_n hκ dX6_never_0 rfl ?_
  refine ab_getf (v := .ref 15) hκ (sy_o6 rfl) kf_RX6_28 rfl dX6_never_1 rfl ?_
  refine ab_aload_n hκ dX6_never_4 rfl ?_
  refine ab_getf (v := .ref 5) hκ (sy_o6 rfl) kf_RX6_24 rfl dX6_never_5 rfl ?_
  refine ab_cVv (vs := [.ref 5]) (st := []) hκ dX6_never_8 kl_RX6_224 ki_X0_become kv_X0_become (sy_o0 (Or.inr rfl)) rfl rfl (m0_become_ok 15 5 (Or.inr rfl) (Or.inl rfl) σ) rfl (by decide) (Nat.le_of_ble_eq_true rfl) rfl (fun _ σ1 => ?_)
  refine ab_iconst (v := 0) hκ dX6_never_11 rfl ?_
  refine ab_istore_n (lv' := [sy_vr 0, sy_vi 0, none]) hκ dX6_never_12 rfl (by decide) rfl ?_
  refine ab_iconst (v := 0) hκ dX6_never_13 rfl ?_
  refine ab_istore_n (lv' := [sy_vr 0, sy_vi 0, sy_vi 0]) hκ dX6_never_14 rfl (by decide) rfl ?_
  refine m6_never_L15_ok hκ ?_ _ _ _ _
  · intro y8 σ9
    refine ab_iload_n hκ dX6_never_55 rfl ?_
    exact ab_iret hκ dX6_never_56
-- BreathBand.was(II)I, depth 4
def m6_was_L70b (c11 : Nat) (K70 : Int32 → Int32 → Int32 → Int32 → St → Option (Int32 × St)) (E70_104 : Int32 → St → Option (Int32 × St)) (x10 : Int32) (x13 : Int32) (x14 : Int32) (x15 : Int32) (σ : St) : Option (Int32 × St) := if x13 ≤ x15 then (E70_104 x14 σ) else (sy_gd x10 11 (sy_lt (sy_sf σ c11 (sy_ix x10) x15) (fun σ16 => sy_bd (m6_triedFits σ16) (fun r18 σ17 => if r18 = 0 then (K70 x10 x13 x14 (x15 + 1) σ17) else (sy_lt (x14 ||| (1 <<< (x15 &&& 31))) (fun v19 => K70 x10 x13 v19 (x15 + 1) σ17))))))
def m6_was_L70 (c11 : Nat) (E70_104 : Int32 → St → Option (Int32 × St)) : Nat → Int32 → Int32 → Int32 → Int32 → St → Option (Int32 × St)
  | 0 => fun _ _ _ _ _ => none
  | n + 1 => m6_was_L70b c11 (m6_was_L70 c11 E70_104 n) E70_104
set_option maxRecDepth 100000 in
set_option maxHeartbeats 4000000 in
theorem m6_was_L70b_ok {κ : Kx} (hκ : Gd κ cX6_was 7 RX6 (some .int) 4) (c11 : Nat) (h12 : sy_shp[c11]? = some (.inl 11)) {K70 : Int32 → Int32 → Int32 → Int32 → St → Option (Int32 × St)} (hK70 : ∀ (x10 : Int32) (x13 : Int32) (x14 : Int32) (x15 : Int32) (σ : St), Ab sy_vi κ 70 [sy_vr 0, sy_vi x10, none, sy_vr c11, sy_vi x13, sy_vi x14, sy_vi x15] [] σ (K70 x10 x13 x14 x15 σ)) {E70_104 : Int32 → St → Option (Int32 × St)} (hE70_104 : ∀ (y5 : Int32) (σ : St), Ab sy_vi κ 104 [none, none, none, none, none, sy_vi y5, none] [] σ (E70_104 y5 σ)) (x10 : Int32) (x13 : Int32) (x14 : Int32) (x15 : Int32) (σ : St) : Ab sy_vi κ 70 [sy_vr 0, sy_vi x10, none, sy_vr c11, sy_vi x13, sy_vi x14, sy_vi x15] [] σ (m6_was_L70b c11 K70 E70_104 x10 x13 x14 x15 σ) := by
  unfold m6_was_L70b
  refine ab_iload hκ dX6_was_70 rfl ?_
  refine ab_iload hκ dX6_was_72 rfl ?_
  refine ab_icmp_ge (tgt := 104) hκ dX6_was_74 rfl ?_ ?_
  · refine ab_fg (lv' := [none, none, none, none, none, sy_vi x14, none]) [0, 1, 3, 4, 6] rfl ?_
    exact hE70_104 x14 σ
  · refine ab_aload_n hκ dX6_was_77 rfl ?_
    refine ab_iload_n hκ dX6_was_78 rfl ?_
    refine ab_iload hκ dX6_was_79 rfl ?_
    refine ab_iast hκ h12 dX6_was_81 ?_
    refine ab_lts (fun σ16 => ?_)
    refine ab_aload_n hκ dX6_was_82 rfl ?_
    refine ab_cVi (vs := []) (st := []) hκ dX6_was_83 kl_RX6_231 ki_X6_triedFits kv_X6_triedFits (sy_o6 rfl) rfl rfl (m6_triedFits_ok σ16) rfl (by decide) (Nat.le_of_ble_eq_true rfl) rfl (fun r18 σ17 => ?_)
    refine ab_if_eq (tgt := 98) hκ dX6_was_86 rfl ?_ ?_
    · refine ab_iinc (v := (x15 + 1)) (lv' := [sy_vr 0, sy_vi x10, none, sy_vr c11, sy_vi x13, sy_vi x14, sy_vi (x15 + 1)]) hκ dX6_was_98 rfl rfl (by decide) rfl ?_
      refine ab_goto (tgt := 70) hκ dX6_was_101 rfl ?_
      exact hK70 x10 x13 x14 (x15 + 1) σ17
    · refine ab_iload hκ dX6_was_89 rfl ?_
      refine ab_iconst (v := 1) hκ dX6_was_91 rfl ?_
      refine ab_iload hκ dX6_was_92 rfl ?_
      refine ab_ishl hκ dX6_was_94 ?_
      refine ab_ior hκ dX6_was_95 ?_
      refine ab_lti (fun v19 => ?_)
      refine ab_istore (lv' := [sy_vr 0, sy_vi x10, none, sy_vr c11, sy_vi x13, sy_vi v19, sy_vi x15]) hκ dX6_was_96 (by decide) rfl ?_
      refine ab_iinc (v := (x15 + 1)) (lv' := [sy_vr 0, sy_vi x10, none, sy_vr c11, sy_vi x13, sy_vi v19, sy_vi (x15 + 1)]) hκ dX6_was_98 rfl rfl (by decide) rfl ?_
      refine ab_goto (tgt := 70) hκ dX6_was_101 rfl ?_
      exact hK70 x10 x13 v19 (x15 + 1) σ17
theorem m6_was_L70_ok {κ : Kx} (hκ : Gd κ cX6_was 7 RX6 (some .int) 4) (c11 : Nat) (h12 : sy_shp[c11]? = some (.inl 11)) {E70_104 : Int32 → St → Option (Int32 × St)} (hE70_104 : ∀ (y5 : Int32) (σ : St), Ab sy_vi κ 104 [none, none, none, none, none, sy_vi y5, none] [] σ (E70_104 y5 σ)) : ∀ (n : Nat) (x10 : Int32) (x13 : Int32) (x14 : Int32) (x15 : Int32) (σ : St), Ab sy_vi κ 70 [sy_vr 0, sy_vi x10, none, sy_vr c11, sy_vi x13, sy_vi x14, sy_vi x15] [] σ (m6_was_L70 c11 E70_104 n x10 x13 x14 x15 σ) := by
  intro n
  induction n with
  | zero => intros; exact ab_none
  | succ n ih => exact fun x10 x13 x14 x15 σ => m6_was_L70b_ok hκ c11 h12 ih hE70_104 x10 x13 x14 x15 σ
def m6_was_J52 (x6 : Int32) (x7 : Int32) (c8 : Nat)  (σ : St) : Option (Int32 × St) := if x7 = 0 then (m6_was_L70 c8 (fun y22 σ23 => some (y22, σ23)) sy_FU x6 4 0 0 σ) else (m6_was_L70 c8 (fun y20 σ21 => some (y20, σ21)) sy_FU x6 3 0 0 σ)
set_option maxRecDepth 100000 in
set_option maxHeartbeats 4000000 in
theorem m6_was_J52_ok {κ : Kx} (hκ : Gd κ cX6_was 7 RX6 (some .int) 4) (x6 : Int32) (x7 : Int32) (c8 : Nat) (h9 : sy_shp[c8]? = some (.inl 11)) (σ : St) : Ab sy_vi κ 52 [sy_vr 0, sy_vi x6, sy_vi x7, none, none, none, none] [.ref c8] σ (m6_was_J52 x6 x7 c8 σ) := by
  unfold m6_was_J52
  refine ab_astore_n (lv' := [sy_vr 0, sy_vi x6, sy_vi x7, sy_vr c8, none, none, none]) hκ dX6_was_52 rfl (by decide) rfl ?_
  refine ab_iload_n hκ dX6_was_53 rfl ?_
  refine ab_if_ne (tgt := 61) hκ dX6_was_54 rfl ?_ ?_
  · refine ab_iconst (v := 3) hκ dX6_was_61 rfl ?_
    refine ab_istore (lv' := [sy_vr 0, sy_vi x6, sy_vi x7, sy_vr c8, sy_vi 3, none, none]) hκ dX6_was_62 (by decide) rfl ?_
    refine ab_iconst (v := 0) hκ dX6_was_64 rfl ?_
    refine ab_istore (lv' := [sy_vr 0, sy_vi x6, sy_vi x7, sy_vr c8, sy_vi 3, sy_vi 0, none]) hκ dX6_was_65 (by decide) rfl ?_
    refine ab_iconst (v := 0) hκ dX6_was_67 rfl ?_
    refine ab_istore (lv' := [sy_vr 0, sy_vi x6, sy_vi x7, sy_vr c8, sy_vi 3, sy_vi 0, sy_vi 0]) hκ dX6_was_68 (by decide) rfl ?_
    refine ab_fg (lv' := [sy_vr 0, sy_vi x6, none, sy_vr c8, sy_vi 3, sy_vi 0, sy_vi 0]) [2] rfl ?_
    refine m6_was_L70_ok hκ c8 h9 ?_ _ _ _ _ _ _
    · intro y20 σ21
      refine ab_iload hκ dX6_was_104 rfl ?_
      exact ab_iret hκ dX6_was_106
  · refine ab_iconst (v := 4) hκ dX6_was_57 rfl ?_
    refine ab_goto (tgt := 62) hκ dX6_was_58 rfl ?_
    refine ab_istore (lv' := [sy_vr 0, sy_vi x6, sy_vi x7, sy_vr c8, sy_vi 4, none, none]) hκ dX6_was_62 (by decide) rfl ?_
    refine ab_iconst (v := 0) hκ dX6_was_64 rfl ?_
    refine ab_istore (lv' := [sy_vr 0, sy_vi x6, sy_vi x7, sy_vr c8, sy_vi 4, sy_vi 0, none]) hκ dX6_was_65 (by decide) rfl ?_
    refine ab_iconst (v := 0) hκ dX6_was_67 rfl ?_
    refine ab_istore (lv' := [sy_vr 0, sy_vi x6, sy_vi x7, sy_vr c8, sy_vi 4, sy_vi 0, sy_vi 0]) hκ dX6_was_68 (by decide) rfl ?_
    refine ab_fg (lv' := [sy_vr 0, sy_vi x6, none, sy_vr c8, sy_vi 4, sy_vi 0, sy_vi 0]) [2] rfl ?_
    refine m6_was_L70_ok hκ c8 h9 ?_ _ _ _ _ _ _
    · intro y22 σ23
      refine ab_iload hκ dX6_was_104 rfl ?_
      exact ab_iret hκ dX6_was_106
def m6_was (a1 : Int32) (a2 : Int32) (σ : St) : Option (Int32 × St) := sy_bd (m6_isPlayer a1 σ) (fun r2 σ1 => if r2 = 0 then (some ((-2), σ1)) else (sy_bd (m6_within a2 0 1 σ1) (fun r4 σ3 => if r4 = 0 then (some ((-2), σ3)) else (sy_bd (m0_become 15 5 σ3) (fun _ σ5 => if a2 = 0 then (m6_was_J52 a1 a2 17 σ5) else (m6_was_J52 a1 a2 16 σ5))))))
set_option maxRecDepth 100000 in
set_option maxHeartbeats 4000000 in
theorem m6_was_ok (a1 : Int32) (a2 : Int32) (σ : St) : Cok sy_vi yX6_was cX6_was 7 (some .int) 4 [.ref 0, .int a1, .int a2] σ (m6_was a1 a2 σ) := by
  refine cok_of (own := RX6) (by decide) rfl (fun ad => Nat.le_of_ble_eq_true rfl) (fun κ hκ => ?_)
  show Ab sy_vi κ 0 [sy_vr 0, sy_vi a1, sy_vi a2, none, none, none, none] [] σ (m6_was a1 a2 σ)
  unfold m6_was
  refine ab_aload_n hκ dX6_was_0 rfl ?_
  refine ab_iload_n hκ dX6_was_1 rfl ?_
  refine ab_cVi (vs := [.int a1]) (st := []) hκ dX6_was_2 kl_RX6_111 ki_X6_isPlayer kv_X6_isPlayer (sy_o6 rfl) rfl rfl (m6_isPlayer_ok a1 σ) rfl (by decide) (Nat.le_of_ble_eq_true rfl) rfl (fun r2 σ1 => ?_)
  refine ab_if_eq (tgt := 17) hκ dX6_was_5 rfl ?_ ?_
  · refine ab_bipush (v := (-2)) hκ dX6_was_17 rfl ?_
    exact ab_iret hκ dX6_was_19
  · refine ab_iload_n hκ dX6_was_8 rfl ?_
    refine ab_iconst (v := 0) hκ dX6_was_9 rfl ?_
    refine ab_iconst (v := 1) hκ dX6_was_10 rfl ?_
    refine ab_cSi (vs := [.int a2, .int 0, .int 1]) (st := []) hκ dX6_was_11 kl_RX6_89 ki_X6_within kv_X6_within (m6_within_ok a2 0 1 σ1) rfl (by decide) (Nat.le_of_ble_eq_true rfl) rfl (fun r4 σ3 => ?_)
    refine ab_if_ne (tgt := 20) hκ dX6_was_14 rfl ?_ ?_
    · refine ab_aload_n hκ dX6_was_20 rfl ?_
      refine ab_getf (v := .ref 15) hκ (sy_o6 rfl) kf_RX6_28 rfl dX6_was_21 rfl ?_
      refine ab_aload_n hκ dX6_was_24 rfl ?_
      refine ab_getf (v := .ref 5) hκ (sy_o6 rfl) kf_RX6_24 rfl dX6_was_25 rfl ?_
      refine ab_cVv (vs := [.ref 5]) (st := []) hκ dX6_was_28 kl_RX6_224 ki_X0_become kv_X0_become (sy_o0 (Or.inr rfl)) rfl rfl (m0_become_ok 15 5 (Or.inr rfl) (Or.inl rfl) σ3) rfl (by decide) (Nat.le_of_ble_eq_true rfl) rfl (fun _ σ5 => ?_)
      refine ab_iload_n hκ dX6_was_31 rfl ?_
      refine ab_if_ne (tgt := 45) hκ dX6_was_32 rfl ?_ ?_
      · refine ab_aload_n hκ dX6_was_45 rfl ?_
        refine ab_getf (v := .ref 15) hκ (sy_o6 rfl) kf_RX6_28 rfl dX6_was_46 rfl ?_
        refine ab_getf (v := .ref 16) hκ (sy_o0 (Or.inr rfl)) kf_RX6_114 rfl dX6_was_49 rfl ?_
        exact m6_was_J52_ok hκ a1 a2 16 rfl σ5
      · refine ab_aload_n hκ dX6_was_35 rfl ?_
        refine ab_getf (v := .ref 15) hκ (sy_o6 rfl) kf_RX6_28 rfl dX6_was_36 rfl ?_
        refine ab_getf (v := .ref 17) hκ (sy_o0 (Or.inr rfl)) kf_RX6_117 rfl dX6_was_39 rfl ?_
        refine ab_goto (tgt := 52) hκ dX6_was_42 rfl ?_
        exact m6_was_J52_ok hκ a1 a2 17 rfl σ5
    · refine ab_bipush (v := (-2)) hκ dX6_was_17 rfl ?_
      exact ab_iret hκ dX6_was_19
-- BreathBand.countAlike(I)V, depth 4
def m6_countAlike_L45b (K45 : Int32 → Int32 → Int32 → St → Option (Unit × St)) (E45_84 : Int32 → Int32 → St → Option (Unit × St)) (x8 : Int32) (x9 : Int32) (x10 : Int32) (σ : St) : Option (Unit × St) := if (σ 15 5) ≤ x10 then (E45_84 x8 x9 σ) else (sy_gd x10 16 (sy_gd ((x10 * 3) + (σ 38 (sy_ix x10))) 48 (sy_gd ((x10 * 3) + (σ 38 (sy_ix x10))) 48 (sy_lt (sy_sf σ 51 (sy_ix ((x10 * 3) + (σ 38 (sy_ix x10)))) ((σ 51 (sy_ix ((x10 * 3) + (σ 38 (sy_ix x10))))) + 1)) (fun σ11 => K45 x8 x9 (x10 + 1) σ11)))))
def m6_countAlike_L45 (E45_84 : Int32 → Int32 → St → Option (Unit × St)) : Nat → Int32 → Int32 → Int32 → St → Option (Unit × St)
  | 0 => fun _ _ _ _ => none
  | n + 1 => m6_countAlike_L45b  (m6_countAlike_L45  E45_84 n) E45_84
set_option maxRecDepth 100000 in
set_option maxHeartbeats 4000000 in
theorem m6_countAlike_L45b_ok {κ : Kx} (hκ : Gd κ cX6_countAlike 4 RX6 none 4) {K45 : Int32 → Int32 → Int32 → St → Option (Unit × St)} (hK45 : ∀ (x8 : Int32) (x9 : Int32) (x10 : Int32) (σ : St), Ab sy_cu κ 45 [sy_vr 0, sy_vi x8, sy_vi x9, sy_vi x10] [] σ (K45 x8 x9 x10 σ)) {E45_84 : Int32 → Int32 → St → Option (Unit × St)} (hE45_84 : ∀ (y1 : Int32) (y2 : Int32) (σ : St), Ab sy_cu κ 84 [sy_vr 0, sy_vi y1, sy_vi y2, none] [] σ (E45_84 y1 y2 σ)) (x8 : Int32) (x9 : Int32) (x10 : Int32) (σ : St) : Ab sy_cu κ 45 [sy_vr 0, sy_vi x8, sy_vi x9, sy_vi x10] [] σ (m6_countAlike_L45b  K45 E45_84 x8 x9 x10 σ) := by
  unfold m6_countAlike_L45b
  refine ab_iload_n hκ dX6_countAlike_45 rfl ?_
  refine ab_aload_n hκ dX6_countAlike_46 rfl ?_
  refine ab_getf (v := .ref 15) hκ (sy_o6 rfl) kf_RX6_28 rfl dX6_countAlike_47 rfl ?_
  refine ab_getf (v := .int (σ 15 5)) hκ (sy_o0 (Or.inr rfl)) kf_RX6_120 rfl dX6_countAlike_50 rfl ?_
  refine ab_icmp_ge (tgt := 84) hκ dX6_countAlike_53 rfl ?_ ?_
  · refine ab_fg (lv' := [sy_vr 0, sy_vi x8, sy_vi x9, none]) [3] rfl ?_
    exact hE45_84 x8 x9 σ
  · refine ab_aload_n hκ dX6_countAlike_56 rfl ?_
    refine ab_getf (v := .ref 51) hκ (sy_o6 rfl) kf_RX6_68 rfl dX6_countAlike_57 rfl ?_
    refine ab_iload_n hκ dX6_countAlike_60 rfl ?_
    refine ab_iconst (v := 3) hκ dX6_countAlike_61 rfl ?_
    refine ab_imul hκ dX6_countAlike_62 ?_
    refine ab_aload_n hκ dX6_countAlike_63 rfl ?_
    refine ab_getf (v := .ref 34) hκ (sy_o6 rfl) kf_RX6_38 rfl dX6_countAlike_64 rfl ?_
    refine ab_getf (v := .ref 38) hκ (sy_o3 (Or.inr rfl)) kf_RX6_172 rfl dX6_countAlike_67 rfl ?_
    refine ab_iload_n hκ dX6_countAlike_70 rfl ?_
    refine ab_iald hκ rfl dX6_countAlike_71 ?_
    refine ab_iadd hκ dX6_countAlike_72 ?_
    refine ab_dup2 hκ dX6_countAlike_73 ?_
    refine ab_iald hκ rfl dX6_countAlike_74 ?_
    refine ab_iconst (v := 1) hκ dX6_countAlike_75 rfl ?_
    refine ab_iadd hκ dX6_countAlike_76 ?_
    refine ab_iast hκ rfl dX6_countAlike_77 ?_
    refine ab_lts (fun σ11 => ?_)
    refine ab_iinc (v := (x10 + 1)) (lv' := [sy_vr 0, sy_vi x8, sy_vi x9, sy_vi (x10 + 1)]) hκ dX6_countAlike_78 rfl rfl (by decide) rfl ?_
    refine ab_goto (tgt := 45) hκ dX6_countAlike_81 rfl ?_
    exact hK45 x8 x9 (x10 + 1) σ11
theorem m6_countAlike_L45_ok {κ : Kx} (hκ : Gd κ cX6_countAlike 4 RX6 none 4) {E45_84 : Int32 → Int32 → St → Option (Unit × St)} (hE45_84 : ∀ (y1 : Int32) (y2 : Int32) (σ : St), Ab sy_cu κ 84 [sy_vr 0, sy_vi y1, sy_vi y2, none] [] σ (E45_84 y1 y2 σ)) : ∀ (n : Nat) (x8 : Int32) (x9 : Int32) (x10 : Int32) (σ : St), Ab sy_cu κ 45 [sy_vr 0, sy_vi x8, sy_vi x9, sy_vi x10] [] σ (m6_countAlike_L45  E45_84 n x8 x9 x10 σ) := by
  intro n
  induction n with
  | zero => intros; exact ab_none
  | succ n ih => exact fun x8 x9 x10 σ => m6_countAlike_L45b_ok hκ   ih hE45_84 x8 x9 x10 σ
def m6_countAlike_L21b (K21 : Int32 → Int32 → St → Option (Unit × St)) (E21_90 : St → Option (Unit × St)) (x3 : Int32) (x4 : Int32) (σ : St) : Option (Unit × St) := if 4 ≤ x4 then (E21_90  σ) else (sy_gd x3 11 (sy_lt (sy_sf σ 17 (sy_ix x3) x4) (fun σ5 => sy_bd (m6_triedFits σ5) (fun r7 σ6 => if r7 = 0 then (K21 x3 (x4 + 1) σ6) else (m6_countAlike_L45 (fun y12 y13 σ14 => K21 y12 (y13 + 1) σ14) sy_FU x3 x4 0 σ6)))))
def m6_countAlike_L21 (E21_90 : St → Option (Unit × St)) : Nat → Int32 → Int32 → St → Option (Unit × St)
  | 0 => fun _ _ _ => none
  | n + 1 => m6_countAlike_L21b  (m6_countAlike_L21  E21_90 n) E21_90
set_option maxRecDepth 100000 in
set_option maxHeartbeats 4000000 in
theorem m6_countAlike_L21b_ok {κ : Kx} (hκ : Gd κ cX6_countAlike 4 RX6 none 4) {K21 : Int32 → Int32 → St → Option (Unit × St)} (hK21 : ∀ (x3 : Int32) (x4 : Int32) (σ : St), Ab sy_cu κ 21 [sy_vr 0, sy_vi x3, sy_vi x4, none] [] σ (K21 x3 x4 σ)) {E21_90 : St → Option (Unit × St)} (hE21_90 : ∀ (σ : St), Ab sy_cu κ 90 [none, none, none, none] [] σ (E21_90  σ)) (x3 : Int32) (x4 : Int32) (σ : St) : Ab sy_cu κ 21 [sy_vr 0, sy_vi x3, sy_vi x4, none] [] σ (m6_countAlike_L21b  K21 E21_90 x3 x4 σ) := by
  unfold m6_countAlike_L21b
  refine ab_iload_n hκ dX6_countAlike_21 rfl ?_
  refine ab_iconst (v := 4) hκ dX6_countAlike_22 rfl ?_
  refine ab_icmp_ge (tgt := 90) hκ dX6_countAlike_23 rfl ?_ ?_
  · refine ab_fg (lv' := [none, none, none, none]) [0, 1, 2] rfl ?_
    exact hE21_90  σ
  · refine ab_aload_n hκ dX6_countAlike_26 rfl ?_
    refine ab_getf (v := .ref 15) hκ (sy_o6 rfl) kf_RX6_28 rfl dX6_countAlike_27 rfl ?_
    refine ab_getf (v := .ref 17) hκ (sy_o0 (Or.inr rfl)) kf_RX6_117 rfl dX6_countAlike_30 rfl ?_
    refine ab_iload_n hκ dX6_countAlike_33 rfl ?_
    refine ab_iload_n hκ dX6_countAlike_34 rfl ?_
    refine ab_iast hκ rfl dX6_countAlike_35 ?_
    refine ab_lts (fun σ5 => ?_)
    refine ab_aload_n hκ dX6_countAlike_36 rfl ?_
    refine ab_cVi (vs := []) (st := []) hκ dX6_countAlike_37 kl_RX6_231 ki_X6_triedFits kv_X6_triedFits (sy_o6 rfl) rfl rfl (m6_triedFits_ok σ5) rfl (by decide) (Nat.le_of_ble_eq_true rfl) rfl (fun r7 σ6 => ?_)
    refine ab_if_eq (tgt := 84) hκ dX6_countAlike_40 rfl ?_ ?_
    · refine ab_iinc (v := (x4 + 1)) (lv' := [sy_vr 0, sy_vi x3, sy_vi (x4 + 1), none]) hκ dX6_countAlike_84 rfl rfl (by decide) rfl ?_
      refine ab_goto (tgt := 21) hκ dX6_countAlike_87 rfl ?_
      exact hK21 x3 (x4 + 1) σ6
    · refine ab_iconst (v := 0) hκ dX6_countAlike_43 rfl ?_
      refine ab_istore_n (lv' := [sy_vr 0, sy_vi x3, sy_vi x4, sy_vi 0]) hκ dX6_countAlike_44 rfl (by decide) rfl ?_
      refine m6_countAlike_L45_ok hκ ?_ _ _ _ _ _
      · intro y12 y13 σ14
        refine ab_iinc (v := (y13 + 1)) (lv' := [sy_vr 0, sy_vi y12, sy_vi (y13 + 1), none]) hκ dX6_countAlike_84 rfl rfl (by decide) rfl ?_
        refine ab_goto (tgt := 21) hκ dX6_countAlike_87 rfl ?_
        exact hK21 y12 (y13 + 1) σ14
theorem m6_countAlike_L21_ok {κ : Kx} (hκ : Gd κ cX6_countAlike 4 RX6 none 4) {E21_90 : St → Option (Unit × St)} (hE21_90 : ∀ (σ : St), Ab sy_cu κ 90 [none, none, none, none] [] σ (E21_90  σ)) : ∀ (n : Nat) (x3 : Int32) (x4 : Int32) (σ : St), Ab sy_cu κ 21 [sy_vr 0, sy_vi x3, sy_vi x4, none] [] σ (m6_countAlike_L21  E21_90 n x3 x4 σ) := by
  intro n
  induction n with
  | zero => intros; exact ab_none
  | succ n ih => exact fun x3 x4 σ => m6_countAlike_L21b_ok hκ   ih hE21_90 x3 x4 σ
def m6_countAlike (a1 : Int32) (σ : St) : Option (Unit × St) := sy_bd (mj7_fill_53178 51 48 0 σ) (fun _ σ1 => sy_bd (m0_become 15 5 σ1) (fun _ σ2 => m6_countAlike_L21 (fun  σ15 => some ((), σ15)) sy_FU a1 0 σ2))
set_option maxRecDepth 100000 in
set_option maxHeartbeats 4000000 in
theorem m6_countAlike_ok (a1 : Int32) (σ : St) : Cok sy_cu yX6_countAlike cX6_countAlike 4 none 4 [.ref 0, .int a1] σ (m6_countAlike a1 σ) := by
  refine cok_of (own := RX6) (by decide) rfl (fun ad => Nat.le_of_ble_eq_true rfl) (fun κ hκ => ?_)
  show Ab sy_cu κ 0 [sy_vr 0, sy_vi a1, none, none] [] σ (m6_countAlike a1 σ)
  unfold m6_countAlike
  refine ab_aload_n hκ dX6_countAlike_0 rfl ?_
  refine ab_getf (v := .ref 51) hκ (sy_o6 rfl) kf_RX6_68 rfl dX6_countAlike_1 rfl ?_
  refine ab_iconst (v := 0) hκ dX6_countAlike_4 rfl ?_
  refine ab_cSv (vs := [.ref 51, .int 0]) (st := []) hκ dX6_countAlike_5 kl_RX6_409 ki_J7_fill_53178 kv_J7_fill_53178 (mj7_fill_53178_ok 51 48 0 rfl σ) rfl (by decide) (Nat.le_of_ble_eq_true rfl) rfl (fun _ σ1 => ?_)
  refine ab_aload_n hκ dX6_countAlike_8 rfl ?_
  refine ab_getf (v := .ref 15) hκ (sy_o6 rfl) kf_RX6_28 rfl dX6_countAlike_9 rfl ?_
  refine ab_aload_n hκ dX6_countAlike_12 rfl ?_
  refine ab_getf (v := .ref 5) hκ (sy_o6 rfl) kf_RX6_24 rfl dX6_countAlike_13 rfl ?_
  refine ab_cVv (vs := [.ref 5]) (st := []) hκ dX6_countAlike_16 kl_RX6_224 ki_X0_become kv_X0_become (sy_o0 (Or.inr rfl)) rfl rfl (m0_become_ok 15 5 (Or.inr rfl) (Or.inl rfl) σ1) rfl (by decide) (Nat.le_of_ble_eq_true rfl) rfl (fun _ σ2 => ?_)
  refine ab_iconst (v := 0) hκ dX6_countAlike_19 rfl ?_
  refine ab_istore_n (lv' := [sy_vr 0, sy_vi a1, sy_vi 0, none]) hκ dX6_countAlike_20 rfl (by decide) rfl ?_
  refine m6_countAlike_L21_ok hκ ?_ _ _ _ _
  · intro  σ15
    exact ab_vret hκ dX6_countAlike_90
-- BreathBand.mostAlike(I)I, depth 1
def m6_mostAlike_L4b (K4 : Int32 → Int32 → Int32 → St → Option (Int32 × St)) (E4_30 : Int32 → St → Option (Int32 × St)) (x1 : Int32) (x2 : Int32) (x3 : Int32) (σ : St) : Option (Int32 × St) := if 3 ≤ x3 then (E4_30 x2 σ) else (sy_gd ((x1 * 3) + x3) 48 (sy_lt (sy_max x2 (σ 51 (sy_ix ((x1 * 3) + x3)))) (fun v4 => K4 x1 v4 (x3 + 1) σ)))
def m6_mostAlike_L4 (E4_30 : Int32 → St → Option (Int32 × St)) : Nat → Int32 → Int32 → Int32 → St → Option (Int32 × St)
  | 0 => fun _ _ _ _ => none
  | n + 1 => m6_mostAlike_L4b  (m6_mostAlike_L4  E4_30 n) E4_30
set_option maxRecDepth 100000 in
set_option maxHeartbeats 4000000 in
theorem m6_mostAlike_L4b_ok {κ : Kx} (hκ : Gd κ cX6_mostAlike 4 RX6 (some .int) 1) {K4 : Int32 → Int32 → Int32 → St → Option (Int32 × St)} (hK4 : ∀ (x1 : Int32) (x2 : Int32) (x3 : Int32) (σ : St), Ab sy_vi κ 4 [sy_vr 0, sy_vi x1, sy_vi x2, sy_vi x3] [] σ (K4 x1 x2 x3 σ)) {E4_30 : Int32 → St → Option (Int32 × St)} (hE4_30 : ∀ (y2 : Int32) (σ : St), Ab sy_vi κ 30 [none, none, sy_vi y2, none] [] σ (E4_30 y2 σ)) (x1 : Int32) (x2 : Int32) (x3 : Int32) (σ : St) : Ab sy_vi κ 4 [sy_vr 0, sy_vi x1, sy_vi x2, sy_vi x3] [] σ (m6_mostAlike_L4b  K4 E4_30 x1 x2 x3 σ) := by
  unfold m6_mostAlike_L4b
  refine ab_iload_n hκ dX6_mostAlike_4 rfl ?_
  refine ab_iconst (v := 3) hκ dX6_mostAlike_5 rfl ?_
  refine ab_icmp_ge (tgt := 30) hκ dX6_mostAlike_6 rfl ?_ ?_
  · refine ab_fg (lv' := [none, none, sy_vi x2, none]) [0, 1, 3] rfl ?_
    exact hE4_30 x2 σ
  · refine ab_iload_n hκ dX6_mostAlike_9 rfl ?_
    refine ab_aload_n hκ dX6_mostAlike_10 rfl ?_
    refine ab_getf (v := .ref 51) hκ (sy_o6 rfl) kf_RX6_68 rfl dX6_mostAlike_11 rfl ?_
    refine ab_iload_n hκ dX6_mostAlike_14 rfl ?_
    refine ab_iconst (v := 3) hκ dX6_mostAlike_15 rfl ?_
    refine ab_imul hκ dX6_mostAlike_16 ?_
    refine ab_iload_n hκ dX6_mostAlike_17 rfl ?_
    refine ab_iadd hκ dX6_mostAlike_18 ?_
    refine ab_iald hκ rfl dX6_mostAlike_19 ?_
    refine ab_mmax hκ dX6_mostAlike_20 kl_RX6_414 (by decide) (Nat.le_of_ble_eq_true rfl) ?_
    refine ab_lti (fun v4 => ?_)
    refine ab_istore_n (lv' := [sy_vr 0, sy_vi x1, sy_vi v4, sy_vi x3]) hκ dX6_mostAlike_23 rfl (by decide) rfl ?_
    refine ab_iinc (v := (x3 + 1)) (lv' := [sy_vr 0, sy_vi x1, sy_vi v4, sy_vi (x3 + 1)]) hκ dX6_mostAlike_24 rfl rfl (by decide) rfl ?_
    refine ab_goto (tgt := 4) hκ dX6_mostAlike_27 rfl ?_
    exact hK4 x1 v4 (x3 + 1) σ
theorem m6_mostAlike_L4_ok {κ : Kx} (hκ : Gd κ cX6_mostAlike 4 RX6 (some .int) 1) {E4_30 : Int32 → St → Option (Int32 × St)} (hE4_30 : ∀ (y2 : Int32) (σ : St), Ab sy_vi κ 30 [none, none, sy_vi y2, none] [] σ (E4_30 y2 σ)) : ∀ (n : Nat) (x1 : Int32) (x2 : Int32) (x3 : Int32) (σ : St), Ab sy_vi κ 4 [sy_vr 0, sy_vi x1, sy_vi x2, sy_vi x3] [] σ (m6_mostAlike_L4  E4_30 n x1 x2 x3 σ) := by
  intro n
  induction n with
  | zero => intros; exact ab_none
  | succ n ih => exact fun x1 x2 x3 σ => m6_mostAlike_L4b_ok hκ   ih hE4_30 x1 x2 x3 σ
def m6_mostAlike (a1 : Int32) (σ : St) : Option (Int32 × St) := m6_mostAlike_L4 (fun y5 σ6 => some (y5, σ6)) sy_FU a1 0 0 σ
set_option maxRecDepth 100000 in
set_option maxHeartbeats 4000000 in
theorem m6_mostAlike_ok (a1 : Int32) (σ : St) : Cok sy_vi yX6_mostAlike cX6_mostAlike 4 (some .int) 1 [.ref 0, .int a1] σ (m6_mostAlike a1 σ) := by
  refine cok_of (own := RX6) (by decide) rfl (fun ad => Nat.le_of_ble_eq_true rfl) (fun κ hκ => ?_)
  show Ab sy_vi κ 0 [sy_vr 0, sy_vi a1, none, none] [] σ (m6_mostAlike a1 σ)
  unfold m6_mostAlike
  refine ab_iconst (v := 0) hκ dX6_mostAlike_0 rfl ?_
  refine ab_istore_n (lv' := [sy_vr 0, sy_vi a1, sy_vi 0, none]) hκ dX6_mostAlike_1 rfl (by decide) rfl ?_
  refine ab_iconst (v := 0) hκ dX6_mostAlike_2 rfl ?_
  refine ab_istore_n (lv' := [sy_vr 0, sy_vi a1, sy_vi 0, sy_vi 0]) hκ dX6_mostAlike_3 rfl (by decide) rfl ?_
  refine m6_mostAlike_L4_ok hκ ?_ _ _ _ _ _
  · intro y5 σ6
    refine ab_iload_n hκ dX6_mostAlike_30 rfl ?_
    exact ab_iret hκ dX6_mostAlike_31
-- BreathBand.ask(I)I, depth 5
def m6_ask_L23b (K23 : Int32 → Int32 → Int32 → St → Option (Int32 × St)) (E23_61 : Int32 → St → Option (Int32 × St)) (x4 : Int32) (x5 : Int32) (x6 : Int32) (σ : St) : Option (Int32 × St) := if (σ 5 5) ≤ x6 then (E23_61 x4 σ) else (sy_bd (m6_mostAlike x6 σ) (fun r8 σ7 => if x5 ≤ r8 then (K23 x4 x5 (x6 + 1) σ7) else (K23 x6 r8 (x6 + 1) σ7)))
def m6_ask_L23 (E23_61 : Int32 → St → Option (Int32 × St)) : Nat → Int32 → Int32 → Int32 → St → Option (Int32 × St)
  | 0 => fun _ _ _ _ => none
  | n + 1 => m6_ask_L23b  (m6_ask_L23  E23_61 n) E23_61
set_option maxRecDepth 100000 in
set_option maxHeartbeats 4000000 in
theorem m6_ask_L23b_ok {κ : Kx} (hκ : Gd κ cX6_ask 6 RX6 (some .int) 5) {K23 : Int32 → Int32 → Int32 → St → Option (Int32 × St)} (hK23 : ∀ (x4 : Int32) (x5 : Int32) (x6 : Int32) (σ : St), Ab sy_vi κ 23 [sy_vr 0, none, sy_vi x4, sy_vi x5, sy_vi x6, none] [] σ (K23 x4 x5 x6 σ)) {E23_61 : Int32 → St → Option (Int32 × St)} (hE23_61 : ∀ (y2 : Int32) (σ : St), Ab sy_vi κ 61 [none, none, sy_vi y2, none, none, none] [] σ (E23_61 y2 σ)) (x4 : Int32) (x5 : Int32) (x6 : Int32) (σ : St) : Ab sy_vi κ 23 [sy_vr 0, none, sy_vi x4, sy_vi x5, sy_vi x6, none] [] σ (m6_ask_L23b  K23 E23_61 x4 x5 x6 σ) := by
  unfold m6_ask_L23b
  refine ab_iload hκ dX6_ask_23 rfl ?_
  refine ab_aload_n hκ dX6_ask_25 rfl ?_
  refine ab_getf (v := .ref 5) hκ (sy_o6 rfl) kf_RX6_24 rfl dX6_ask_26 rfl ?_
  refine ab_getf (v := .int (σ 5 5)) hκ (sy_o0 (Or.inl rfl)) kf_RX6_120 rfl dX6_ask_29 rfl ?_
  refine ab_icmp_ge (tgt := 61) hκ dX6_ask_32 rfl ?_ ?_
  · refine ab_fg (lv' := [none, none, sy_vi x4, none, none, none]) [0, 3, 4] rfl ?_
    exact hE23_61 x4 σ
  · refine ab_aload_n hκ dX6_ask_35 rfl ?_
    refine ab_iload hκ dX6_ask_36 rfl ?_
    refine ab_cVi (vs := [.int x6]) (st := []) hκ dX6_ask_38 kl_RX6_239 ki_X6_mostAlike kv_X6_mostAlike (sy_o6 rfl) rfl rfl (m6_mostAlike_ok x6 σ) rfl (by decide) (Nat.le_of_ble_eq_true rfl) rfl (fun r8 σ7 => ?_)
    refine ab_istore (lv' := [sy_vr 0, none, sy_vi x4, sy_vi x5, sy_vi x6, sy_vi r8]) hκ dX6_ask_41 (by decide) rfl ?_
    refine ab_iload hκ dX6_ask_43 rfl ?_
    refine ab_iload_n hκ dX6_ask_45 rfl ?_
    refine ab_icmp_ge (tgt := 55) hκ dX6_ask_46 rfl ?_ ?_
    · refine ab_iinc (v := (x6 + 1)) (lv' := [sy_vr 0, none, sy_vi x4, sy_vi x5, sy_vi (x6 + 1), sy_vi r8]) hκ dX6_ask_55 rfl rfl (by decide) rfl ?_
      refine ab_goto (tgt := 23) hκ dX6_ask_58 rfl ?_
      refine ab_fg (lv' := [sy_vr 0, none, sy_vi x4, sy_vi x5, sy_vi (x6 + 1), none]) [5] rfl ?_
      exact hK23 x4 x5 (x6 + 1) σ7
    · refine ab_iload hκ dX6_ask_49 rfl ?_
      refine ab_istore_n (lv' := [sy_vr 0, none, sy_vi x4, sy_vi r8, sy_vi x6, sy_vi r8]) hκ dX6_ask_51 rfl (by decide) rfl ?_
      refine ab_iload hκ dX6_ask_52 rfl ?_
      refine ab_istore_n (lv' := [sy_vr 0, none, sy_vi x6, sy_vi r8, sy_vi x6, sy_vi r8]) hκ dX6_ask_54 rfl (by decide) rfl ?_
      refine ab_iinc (v := (x6 + 1)) (lv' := [sy_vr 0, none, sy_vi x6, sy_vi r8, sy_vi (x6 + 1), sy_vi r8]) hκ dX6_ask_55 rfl rfl (by decide) rfl ?_
      refine ab_goto (tgt := 23) hκ dX6_ask_58 rfl ?_
      refine ab_fg (lv' := [sy_vr 0, none, sy_vi x6, sy_vi r8, sy_vi (x6 + 1), none]) [5] rfl ?_
      exact hK23 x6 r8 (x6 + 1) σ7
theorem m6_ask_L23_ok {κ : Kx} (hκ : Gd κ cX6_ask 6 RX6 (some .int) 5) {E23_61 : Int32 → St → Option (Int32 × St)} (hE23_61 : ∀ (y2 : Int32) (σ : St), Ab sy_vi κ 61 [none, none, sy_vi y2, none, none, none] [] σ (E23_61 y2 σ)) : ∀ (n : Nat) (x4 : Int32) (x5 : Int32) (x6 : Int32) (σ : St), Ab sy_vi κ 23 [sy_vr 0, none, sy_vi x4, sy_vi x5, sy_vi x6, none] [] σ (m6_ask_L23  E23_61 n x4 x5 x6 σ) := by
  intro n
  induction n with
  | zero => intros; exact ab_none
  | succ n ih => exact fun x4 x5 x6 σ => m6_ask_L23b_ok hκ   ih hE23_61 x4 x5 x6 σ
def m6_ask (a1 : Int32) (σ : St) : Option (Int32 × St) := sy_bd (m6_isPlayer a1 σ) (fun r2 σ1 => if r2 = 0 then (some ((-2), σ1)) else (sy_bd (m6_countAlike a1 σ1) (fun _ σ3 => m6_ask_L23 (fun y9 σ10 => some (y9, σ10)) sy_FU (-1) 5 0 σ3)))
set_option maxRecDepth 100000 in
set_option maxHeartbeats 4000000 in
theorem m6_ask_ok (a1 : Int32) (σ : St) : Cok sy_vi yX6_ask cX6_ask 6 (some .int) 5 [.ref 0, .int a1] σ (m6_ask a1 σ) := by
  refine cok_of (own := RX6) (by decide) rfl (fun ad => Nat.le_of_ble_eq_true rfl) (fun κ hκ => ?_)
  show Ab sy_vi κ 0 [sy_vr 0, sy_vi a1, none, none, none, none] [] σ (m6_ask a1 σ)
  unfold m6_ask
  refine ab_aload_n hκ dX6_ask_0 rfl ?_
  refine ab_iload_n hκ dX6_ask_1 rfl ?_
  refine ab_cVi (vs := [.int a1]) (st := []) hκ dX6_ask_2 kl_RX6_111 ki_X6_isPlayer kv_X6_isPlayer (sy_o6 rfl) rfl rfl (m6_isPlayer_ok a1 σ) rfl (by decide) (Nat.le_of_ble_eq_true rfl) rfl (fun r2 σ1 => ?_)
  refine ab_if_ne (tgt := 11) hκ dX6_ask_5 rfl ?_ ?_
  · refine ab_aload_n hκ dX6_ask_11 rfl ?_
    refine ab_iload_n hκ dX6_ask_12 rfl ?_
    refine ab_cVv (vs := [.int a1]) (st := []) hκ dX6_ask_13 kl_RX6_235 ki_X6_countAlike kv_X6_countAlike (sy_o6 rfl) rfl rfl (m6_countAlike_ok a1 σ1) rfl (by decide) (Nat.le_of_ble_eq_true rfl) rfl (fun _ σ3 => ?_)
    refine ab_iconst (v := (-1)) hκ dX6_ask_16 rfl ?_
    refine ab_istore_n (lv' := [sy_vr 0, sy_vi a1, sy_vi (-1), none, none, none]) hκ dX6_ask_17 rfl (by decide) rfl ?_
    refine ab_iconst (v := 5) hκ dX6_ask_18 rfl ?_
    refine ab_istore_n (lv' := [sy_vr 0, sy_vi a1, sy_vi (-1), sy_vi 5, none, none]) hκ dX6_ask_19 rfl (by decide) rfl ?_
    refine ab_iconst (v := 0) hκ dX6_ask_20 rfl ?_
    refine ab_istore (lv' := [sy_vr 0, sy_vi a1, sy_vi (-1), sy_vi 5, sy_vi 0, none]) hκ dX6_ask_21 (by decide) rfl ?_
    refine ab_fg (lv' := [sy_vr 0, none, sy_vi (-1), sy_vi 5, sy_vi 0, none]) [1] rfl ?_
    refine m6_ask_L23_ok hκ ?_ _ _ _ _ _
    · intro y9 σ10
      refine ab_iload_n hκ dX6_ask_61 rfl ?_
      exact ab_iret hκ dX6_ask_62
  · refine ab_bipush (v := (-2)) hκ dX6_ask_8 rfl ?_
    exact ab_iret hκ dX6_ask_10
-- BreathBand.learnSubsets()V, depth 3
def m6_learnSubsets_L23b (K23 : Int32 → Int32 → St → Option (Unit × St)) (E23_66 : St → Option (Unit × St)) (x3 : Int32) (x4 : Int32) (σ : St) : Option (Unit × St) := if x3 ≤ x4 then (E23_66  σ) else (sy_lt (sy_sf σ 15 13 x4) (fun σ5 => sy_bd (m3_play 34 15 σ5) (fun _ σ6 => sy_gd x4 256 (sy_lt (sy_sf σ6 50 (sy_ix x4) (σ6 34 8)) (fun σ7 => K23 x3 (x4 + 1) σ7)))))
def m6_learnSubsets_L23 (E23_66 : St → Option (Unit × St)) : Nat → Int32 → Int32 → St → Option (Unit × St)
  | 0 => fun _ _ _ => none
  | n + 1 => m6_learnSubsets_L23b  (m6_learnSubsets_L23  E23_66 n) E23_66
set_option maxRecDepth 100000 in
set_option maxHeartbeats 4000000 in
theorem m6_learnSubsets_L23b_ok {κ : Kx} (hκ : Gd κ cX6_learnSubsets 3 RX6 none 3) {K23 : Int32 → Int32 → St → Option (Unit × St)} (hK23 : ∀ (x3 : Int32) (x4 : Int32) (σ : St), Ab sy_cu κ 23 [sy_vr 0, sy_vi x3, sy_vi x4] [] σ (K23 x3 x4 σ)) {E23_66 : St → Option (Unit × St)} (hE23_66 : ∀ (σ : St), Ab sy_cu κ 66 [sy_vr 0, none, none] [] σ (E23_66  σ)) (x3 : Int32) (x4 : Int32) (σ : St) : Ab sy_cu κ 23 [sy_vr 0, sy_vi x3, sy_vi x4] [] σ (m6_learnSubsets_L23b  K23 E23_66 x3 x4 σ) := by
  unfold m6_learnSubsets_L23b
  refine ab_iload_n hκ dX6_learnSubsets_23 rfl ?_
  refine ab_iload_n hκ dX6_learnSubsets_24 rfl ?_
  refine ab_icmp_ge (tgt := 66) hκ dX6_learnSubsets_25 rfl ?_ ?_
  · refine ab_fg (lv' := [sy_vr 0, none, none]) [1, 2] rfl ?_
    exact hE23_66  σ
  · refine ab_aload_n hκ dX6_learnSubsets_28 rfl ?_
    refine ab_getf (v := .ref 15) hκ (sy_o6 rfl) kf_RX6_28 rfl dX6_learnSubsets_29 rfl ?_
    refine ab_iload_n hκ dX6_learnSubsets_32 rfl ?_
    refine ab_putf hκ (sy_o0 (Or.inr rfl)) kp_RX6_228 rfl dX6_learnSubsets_33 ?_
    refine ab_lts (fun σ5 => ?_)
    refine ab_aload_n hκ dX6_learnSubsets_36 rfl ?_
    refine ab_getf (v := .ref 34) hκ (sy_o6 rfl) kf_RX6_38 rfl dX6_learnSubsets_37 rfl ?_
    refine ab_aload_n hκ dX6_learnSubsets_40 rfl ?_
    refine ab_getf (v := .ref 15) hκ (sy_o6 rfl) kf_RX6_28 rfl dX6_learnSubsets_41 rfl ?_
    refine ab_cVv (vs := [.ref 15]) (st := []) hκ dX6_learnSubsets_44 kl_RX6_265 ki_X3_play kv_X3_play (sy_o3 (Or.inr rfl)) rfl rfl (m3_play_ok 34 15 (Or.inr rfl) (Or.inr rfl) σ5) rfl (by decide) (Nat.le_of_ble_eq_true rfl) rfl (fun _ σ6 => ?_)
    refine ab_aload_n hκ dX6_learnSubsets_47 rfl ?_
    refine ab_getf (v := .ref 50) hκ (sy_o6 rfl) kf_RX6_64 rfl dX6_learnSubsets_48 rfl ?_
    refine ab_iload_n hκ dX6_learnSubsets_51 rfl ?_
    refine ab_aload_n hκ dX6_learnSubsets_52 rfl ?_
    refine ab_getf (v := .ref 34) hκ (sy_o6 rfl) kf_RX6_38 rfl dX6_learnSubsets_53 rfl ?_
    refine ab_getf (v := .int (σ6 34 8)) hκ (sy_o3 (Or.inr rfl)) kf_RX6_406 rfl dX6_learnSubsets_56 rfl ?_
    refine ab_iast hκ rfl dX6_learnSubsets_59 ?_
    refine ab_lts (fun σ7 => ?_)
    refine ab_iinc (v := (x4 + 1)) (lv' := [sy_vr 0, sy_vi x3, sy_vi (x4 + 1)]) hκ dX6_learnSubsets_60 rfl rfl (by decide) rfl ?_
    refine ab_goto (tgt := 23) hκ dX6_learnSubsets_63 rfl ?_
    exact hK23 x3 (x4 + 1) σ7
theorem m6_learnSubsets_L23_ok {κ : Kx} (hκ : Gd κ cX6_learnSubsets 3 RX6 none 3) {E23_66 : St → Option (Unit × St)} (hE23_66 : ∀ (σ : St), Ab sy_cu κ 66 [sy_vr 0, none, none] [] σ (E23_66  σ)) : ∀ (n : Nat) (x3 : Int32) (x4 : Int32) (σ : St), Ab sy_cu κ 23 [sy_vr 0, sy_vi x3, sy_vi x4] [] σ (m6_learnSubsets_L23  E23_66 n x3 x4 σ) := by
  intro n
  induction n with
  | zero => intros; exact ab_none
  | succ n ih => exact fun x3 x4 σ => m6_learnSubsets_L23b_ok hκ   ih hE23_66 x3 x4 σ
def m6_learnSubsets (σ : St) : Option (Unit × St) := sy_bd (m0_become 15 5 σ) (fun _ σ1 => sy_lt (1 <<< ((σ1 5 10) &&& 31)) (fun v2 => m6_learnSubsets_L23 (fun  σ8 => sy_zg 1 (sy_lt (sy_sf σ8 0 15 1) (fun σ9 => some ((), σ9)))) sy_FU v2 0 σ1))
set_option maxRecDepth 100000 in
set_option maxHeartbeats 4000000 in
theorem m6_learnSubsets_ok (σ : St) : Cok sy_cu yX6_learnSubsets cX6_learnSubsets 3 none 3 [.ref 0] σ (m6_learnSubsets σ) := by
  refine cok_of (own := RX6) (by decide) rfl (fun ad => Nat.le_of_ble_eq_true rfl) (fun κ hκ => ?_)
  show Ab sy_cu κ 0 [sy_vr 0, none, none] [] σ (m6_learnSubsets σ)
  unfold m6_learnSubsets
  refine ab_aload_n hκ dX6_learnSubsets_0 rfl ?_
  refine ab_getf (v := .ref 15) hκ (sy_o6 rfl) kf_RX6_28 rfl dX6_learnSubsets_1 rfl ?_
  refine ab_aload_n hκ dX6_learnSubsets_4 rfl ?_
  refine ab_getf (v := .ref 5) hκ (sy_o6 rfl) kf_RX6_24 rfl dX6_learnSubsets_5 rfl ?_
  refine ab_cVv (vs := [.ref 5]) (st := []) hκ dX6_learnSubsets_8 kl_RX6_224 ki_X0_become kv_X0_become (sy_o0 (Or.inr rfl)) rfl rfl (m0_become_ok 15 5 (Or.inr rfl) (Or.inl rfl) σ) rfl (by decide) (Nat.le_of_ble_eq_true rfl) rfl (fun _ σ1 => ?_)
  refine ab_iconst (v := 1) hκ dX6_learnSubsets_11 rfl ?_
  refine ab_aload_n hκ dX6_learnSubsets_12 rfl ?_
  refine ab_getf (v := .ref 5) hκ (sy_o6 rfl) kf_RX6_24 rfl dX6_learnSubsets_13 rfl ?_
  refine ab_getf (v := .int (σ1 5 10)) hκ (sy_o0 (Or.inl rfl)) kf_RX6_142 rfl dX6_learnSubsets_16 rfl ?_
  refine ab_ishl hκ dX6_learnSubsets_19 ?_
  refine ab_lti (fun v2 => ?_)
  refine ab_istore_n (lv' := [sy_vr 0, sy_vi v2, none]) hκ dX6_learnSubsets_20 rfl (by decide) rfl ?_
  refine ab_iconst (v := 0) hκ dX6_learnSubsets_21 rfl ?_
  refine ab_istore_n (lv' := [sy_vr 0, sy_vi v2, sy_vi 0]) hκ dX6_learnSubsets_22 rfl (by decide) rfl ?_
  refine m6_learnSubsets_L23_ok hκ ?_ _ _ _ _
  · intro  σ8
    refine ab_aload_n hκ dX6_learnSubsets_66 rfl ?_
    refine ab_iconst (v := 1) hκ dX6_learnSubsets_67 rfl ?_
    refine ab_putz hκ (sy_o6 rfl) kp_RX6_81 rfl dX6_learnSubsets_68 ?_
    refine ab_lts (fun σ9 => ?_)
    exact ab_vret hκ dX6_learnSubsets_71
-- java/lang/Integer.bitCount(I)I, depth 0
def mj6_bitCount_0f7a4 (a1 : Int32) (σ : St) : Option (Int32 × St) := sy_lt (a1 - ((Int32.toUInt32 a1 >>> (Int32.toUInt32 1 &&& Int32.toUInt32 31)).toInt32 &&& 1431655765)) (fun v1 => sy_lt ((v1 &&& 858993459) + ((Int32.toUInt32 v1 >>> (Int32.toUInt32 2 &&& Int32.toUInt32 31)).toInt32 &&& 858993459)) (fun v2 => sy_lt ((v2 + (Int32.toUInt32 v2 >>> (Int32.toUInt32 4 &&& Int32.toUInt32 31)).toInt32) &&& 252645135) (fun v3 => sy_lt (v3 + (Int32.toUInt32 v3 >>> (Int32.toUInt32 8 &&& Int32.toUInt32 31)).toInt32) (fun v4 => sy_lt (v4 + (Int32.toUInt32 v4 >>> (Int32.toUInt32 16 &&& Int32.toUInt32 31)).toInt32) (fun v5 => some ((v5 &&& 63), σ))))))
set_option maxRecDepth 100000 in
set_option maxHeartbeats 4000000 in
theorem mj6_bitCount_0f7a4_ok (a1 : Int32) (σ : St) : Cok sy_vi yJ6_bitCount_0f7a4 cJ6_bitCount_0f7a4 1 (some .int) 0 [.int a1] σ (mj6_bitCount_0f7a4 a1 σ) := by
  refine cok_of (own := RJ6) (by decide) rfl (fun ad => Nat.le_of_ble_eq_true rfl) (fun κ hκ => ?_)
  show Ab sy_vi κ 0 [sy_vi a1] [] σ (mj6_bitCount_0f7a4 a1 σ)
  unfold mj6_bitCount_0f7a4
  refine ab_iload_n hκ dJ6_bitCount_0f7a4_0 rfl ?_
  refine ab_iload_n hκ dJ6_bitCount_0f7a4_1 rfl ?_
  refine ab_iconst (v := 1) hκ dJ6_bitCount_0f7a4_2 rfl ?_
  refine ab_iushr hκ dJ6_bitCount_0f7a4_3 ?_
  refine ab_ldcw hκ dJ6_bitCount_0f7a4_4 kn_RJ6_265 ?_
  refine ab_iand hκ dJ6_bitCount_0f7a4_7 ?_
  refine ab_isub hκ dJ6_bitCount_0f7a4_8 ?_
  refine ab_lti (fun v1 => ?_)
  refine ab_istore_n (lv' := [sy_vi v1]) hκ dJ6_bitCount_0f7a4_9 rfl (by decide) rfl ?_
  refine ab_iload_n hκ dJ6_bitCount_0f7a4_10 rfl ?_
  refine ab_ldcw hκ dJ6_bitCount_0f7a4_11 kn_RJ6_266 ?_
  refine ab_iand hκ dJ6_bitCount_0f7a4_14 ?_
  refine ab_iload_n hκ dJ6_bitCount_0f7a4_15 rfl ?_
  refine ab_iconst (v := 2) hκ dJ6_bitCount_0f7a4_16 rfl ?_
  refine ab_iushr hκ dJ6_bitCount_0f7a4_17 ?_
  refine ab_ldcw hκ dJ6_bitCount_0f7a4_18 kn_RJ6_266 ?_
  refine ab_iand hκ dJ6_bitCount_0f7a4_21 ?_
  refine ab_iadd hκ dJ6_bitCount_0f7a4_22 ?_
  refine ab_lti (fun v2 => ?_)
  refine ab_istore_n (lv' := [sy_vi v2]) hκ dJ6_bitCount_0f7a4_23 rfl (by decide) rfl ?_
  refine ab_iload_n hκ dJ6_bitCount_0f7a4_24 rfl ?_
  refine ab_iload_n hκ dJ6_bitCount_0f7a4_25 rfl ?_
  refine ab_iconst (v := 4) hκ dJ6_bitCount_0f7a4_26 rfl ?_
  refine ab_iushr hκ dJ6_bitCount_0f7a4_27 ?_
  refine ab_iadd hκ dJ6_bitCount_0f7a4_28 ?_
  refine ab_ldcw hκ dJ6_bitCount_0f7a4_29 kn_RJ6_267 ?_
  refine ab_iand hκ dJ6_bitCount_0f7a4_32 ?_
  refine ab_lti (fun v3 => ?_)
  refine ab_istore_n (lv' := [sy_vi v3]) hκ dJ6_bitCount_0f7a4_33 rfl (by decide) rfl ?_
  refine ab_iload_n hκ dJ6_bitCount_0f7a4_34 rfl ?_
  refine ab_iload_n hκ dJ6_bitCount_0f7a4_35 rfl ?_
  refine ab_bipush (v := 8) hκ dJ6_bitCount_0f7a4_36 rfl ?_
  refine ab_iushr hκ dJ6_bitCount_0f7a4_38 ?_
  refine ab_iadd hκ dJ6_bitCount_0f7a4_39 ?_
  refine ab_lti (fun v4 => ?_)
  refine ab_istore_n (lv' := [sy_vi v4]) hκ dJ6_bitCount_0f7a4_40 rfl (by decide) rfl ?_
  refine ab_iload_n hκ dJ6_bitCount_0f7a4_41 rfl ?_
  refine ab_iload_n hκ dJ6_bitCount_0f7a4_42 rfl ?_
  refine ab_bipush (v := 16) hκ dJ6_bitCount_0f7a4_43 rfl ?_
  refine ab_iushr hκ dJ6_bitCount_0f7a4_45 ?_
  refine ab_iadd hκ dJ6_bitCount_0f7a4_46 ?_
  refine ab_lti (fun v5 => ?_)
  refine ab_istore_n (lv' := [sy_vi v5]) hκ dJ6_bitCount_0f7a4_47 rfl (by decide) rfl ?_
  refine ab_iload_n hκ dJ6_bitCount_0f7a4_48 rfl ?_
  refine ab_bipush (v := 63) hκ dJ6_bitCount_0f7a4_49 rfl ?_
  refine ab_iand hκ dJ6_bitCount_0f7a4_51 ?_
  exact ab_iret hκ dJ6_bitCount_0f7a4_52
-- BreathBand.weight(II)J, depth 0
def m6_weight_L5b (K5 : Int32 → Int32 → Int64 → Int32 → St → Option (Int64 × St)) (E5_42 : Int64 → St → Option (Int64 × St)) (x1 : Int32) (x2 : Int32) (x3 : Int64) (x4 : Int32) (σ : St) : Option (Int64 × St) := if (σ 5 10) ≤ x4 then (E5_42 x3 σ) else (if x2 ≤ x4 then (sy_lt (x3 * (Int32.toInt64 x1)) (fun v5 => K5 x1 x2 v5 (x4 + 1) σ)) else (sy_lt (x3 * (Int32.toInt64 (16 - x1))) (fun v6 => K5 x1 x2 v6 (x4 + 1) σ)))
def m6_weight_L5 (E5_42 : Int64 → St → Option (Int64 × St)) : Nat → Int32 → Int32 → Int64 → Int32 → St → Option (Int64 × St)
  | 0 => fun _ _ _ _ _ => none
  | n + 1 => m6_weight_L5b  (m6_weight_L5  E5_42 n) E5_42
set_option maxRecDepth 100000 in
set_option maxHeartbeats 4000000 in
theorem m6_weight_L5b_ok {κ : Kx} (hκ : Gd κ cX6_weight 6 RX6 (some .long) 0) {K5 : Int32 → Int32 → Int64 → Int32 → St → Option (Int64 × St)} (hK5 : ∀ (x1 : Int32) (x2 : Int32) (x3 : Int64) (x4 : Int32) (σ : St), Ab sy_vl κ 5 [sy_vr 0, sy_vi x1, sy_vi x2, sy_vl x3, none, sy_vi x4] [] σ (K5 x1 x2 x3 x4 σ)) {E5_42 : Int64 → St → Option (Int64 × St)} (hE5_42 : ∀ (y3 : Int64) (σ : St), Ab sy_vl κ 42 [none, none, none, sy_vl y3, none, none] [] σ (E5_42 y3 σ)) (x1 : Int32) (x2 : Int32) (x3 : Int64) (x4 : Int32) (σ : St) : Ab sy_vl κ 5 [sy_vr 0, sy_vi x1, sy_vi x2, sy_vl x3, none, sy_vi x4] [] σ (m6_weight_L5b  K5 E5_42 x1 x2 x3 x4 σ) := by
  unfold m6_weight_L5b
  refine ab_iload hκ dX6_weight_5 rfl ?_
  refine ab_aload_n hκ dX6_weight_7 rfl ?_
  refine ab_getf (v := .ref 5) hκ (sy_o6 rfl) kf_RX6_24 rfl dX6_weight_8 rfl ?_
  refine ab_getf (v := .int (σ 5 10)) hκ (sy_o0 (Or.inl rfl)) kf_RX6_142 rfl dX6_weight_11 rfl ?_
  refine ab_icmp_ge (tgt := 42) hκ dX6_weight_14 rfl ?_ ?_
  · refine ab_fg (lv' := [none, none, none, sy_vl x3, none, none]) [0, 1, 2, 5] rfl ?_
    exact hE5_42 x3 σ
  · refine ab_lload_n hκ dX6_weight_17 rfl ?_
    refine ab_iload hκ dX6_weight_18 rfl ?_
    refine ab_iload_n hκ dX6_weight_20 rfl ?_
    refine ab_icmp_ge (tgt := 32) hκ dX6_weight_21 rfl ?_ ?_
    · refine ab_iload_n hκ dX6_weight_32 rfl ?_
      refine ab_i2l hκ dX6_weight_33 ?_
      refine ab_lmul hκ dX6_weight_34 ?_
      refine ab_ltl (fun v5 => ?_)
      refine ab_lstore_n (lv' := [sy_vr 0, sy_vi x1, sy_vi x2, sy_vl v5, none, sy_vi x4]) hκ dX6_weight_35 rfl (by decide) rfl ?_
      refine ab_iinc (v := (x4 + 1)) (lv' := [sy_vr 0, sy_vi x1, sy_vi x2, sy_vl v5, none, sy_vi (x4 + 1)]) hκ dX6_weight_36 rfl rfl (by decide) rfl ?_
      refine ab_goto (tgt := 5) hκ dX6_weight_39 rfl ?_
      exact hK5 x1 x2 v5 (x4 + 1) σ
    · refine ab_bipush (v := 16) hκ dX6_weight_24 rfl ?_
      refine ab_iload_n hκ dX6_weight_26 rfl ?_
      refine ab_isub hκ dX6_weight_27 ?_
      refine ab_i2l hκ dX6_weight_28 ?_
      refine ab_goto (tgt := 34) hκ dX6_weight_29 rfl ?_
      refine ab_lmul hκ dX6_weight_34 ?_
      refine ab_ltl (fun v6 => ?_)
      refine ab_lstore_n (lv' := [sy_vr 0, sy_vi x1, sy_vi x2, sy_vl v6, none, sy_vi x4]) hκ dX6_weight_35 rfl (by decide) rfl ?_
      refine ab_iinc (v := (x4 + 1)) (lv' := [sy_vr 0, sy_vi x1, sy_vi x2, sy_vl v6, none, sy_vi (x4 + 1)]) hκ dX6_weight_36 rfl rfl (by decide) rfl ?_
      refine ab_goto (tgt := 5) hκ dX6_weight_39 rfl ?_
      exact hK5 x1 x2 v6 (x4 + 1) σ
theorem m6_weight_L5_ok {κ : Kx} (hκ : Gd κ cX6_weight 6 RX6 (some .long) 0) {E5_42 : Int64 → St → Option (Int64 × St)} (hE5_42 : ∀ (y3 : Int64) (σ : St), Ab sy_vl κ 42 [none, none, none, sy_vl y3, none, none] [] σ (E5_42 y3 σ)) : ∀ (n : Nat) (x1 : Int32) (x2 : Int32) (x3 : Int64) (x4 : Int32) (σ : St), Ab sy_vl κ 5 [sy_vr 0, sy_vi x1, sy_vi x2, sy_vl x3, none, sy_vi x4] [] σ (m6_weight_L5  E5_42 n x1 x2 x3 x4 σ) := by
  intro n
  induction n with
  | zero => intros; exact ab_none
  | succ n ih => exact fun x1 x2 x3 x4 σ => m6_weight_L5b_ok hκ   ih hE5_42 x1 x2 x3 x4 σ
def m6_weight (a1 : Int32) (a2 : Int32) (σ : St) : Option (Int64 × St) := m6_weight_L5 (fun y7 σ8 => some (y7, σ8)) sy_FU a1 a2 1 0 σ
set_option maxRecDepth 100000 in
set_option maxHeartbeats 4000000 in
theorem m6_weight_ok (a1 : Int32) (a2 : Int32) (σ : St) : Cok sy_vl yX6_weight cX6_weight 6 (some .long) 0 [.ref 0, .int a1, .int a2] σ (m6_weight a1 a2 σ) := by
  refine cok_of (own := RX6) (by decide) rfl (fun ad => Nat.le_of_ble_eq_true rfl) (fun κ hκ => ?_)
  show Ab sy_vl κ 0 [sy_vr 0, sy_vi a1, sy_vi a2, none, none, none] [] σ (m6_weight a1 a2 σ)
  unfold m6_weight
  refine ab_lconst (v := 1) hκ dX6_weight_0 rfl ?_
  refine ab_lstore_n (lv' := [sy_vr 0, sy_vi a1, sy_vi a2, sy_vl 1, none, none]) hκ dX6_weight_1 rfl (by decide) rfl ?_
  refine ab_iconst (v := 0) hκ dX6_weight_2 rfl ?_
  refine ab_istore (lv' := [sy_vr 0, sy_vi a1, sy_vi a2, sy_vl 1, none, sy_vi 0]) hκ dX6_weight_3 (by decide) rfl ?_
  refine m6_weight_L5_ok hκ ?_ _ _ _ _ _ _
  · intro y7 σ8
    refine ab_lload_n hκ dX6_weight_42 rfl ?_
    exact ab_lret hκ dX6_weight_43
-- BreathBand.chance(III)J, depth 4
def m6_chance_L59b (K59 : Int32 → Int32 → Int32 → Int64 → Int32 → Int32 → St → Option (Int64 × St)) (E59_101 : Int32 → Int64 → St → Option (Int64 × St)) (x8 : Int32) (x9 : Int32) (x10 : Int32) (x11 : Int64) (x12 : Int32) (x13 : Int32) (σ : St) : Option (Int64 × St) := if x12 ≤ x13 then (E59_101 x10 x11 σ) else (sy_gd x13 256 (if (((σ 50 (sy_ix x13)) >>> (x9 &&& 31)) &&& 1) = 0 then (K59 x8 x9 x10 x11 x12 (x13 + 1) σ) else (sy_bd (mj6_bitCount_0f7a4 x13 σ) (fun r15 σ14 => sy_bd (m6_weight x8 r15 σ14) (fun r17 σ16 => sy_lt (x11 + r17) (fun v18 => K59 x8 x9 x10 v18 x12 (x13 + 1) σ16))))))
def m6_chance_L59 (E59_101 : Int32 → Int64 → St → Option (Int64 × St)) : Nat → Int32 → Int32 → Int32 → Int64 → Int32 → Int32 → St → Option (Int64 × St)
  | 0 => fun _ _ _ _ _ _ _ => none
  | n + 1 => m6_chance_L59b  (m6_chance_L59  E59_101 n) E59_101
set_option maxRecDepth 100000 in
set_option maxHeartbeats 4000000 in
theorem m6_chance_L59b_ok {κ : Kx} (hκ : Gd κ cX6_chance 11 RX6 (some .long) 4) {K59 : Int32 → Int32 → Int32 → Int64 → Int32 → Int32 → St → Option (Int64 × St)} (hK59 : ∀ (x8 : Int32) (x9 : Int32) (x10 : Int32) (x11 : Int64) (x12 : Int32) (x13 : Int32) (σ : St), Ab sy_vl κ 59 [sy_vr 0, sy_vi x8, sy_vi x9, sy_vi x10, sy_vl x11, none, sy_vi x12, sy_vi x13, none, none, none] [] σ (K59 x8 x9 x10 x11 x12 x13 σ)) {E59_101 : Int32 → Int64 → St → Option (Int64 × St)} (hE59_101 : ∀ (y3 : Int32) (y4 : Int64) (σ : St), Ab sy_vl κ 101 [sy_vr 0, none, none, sy_vi y3, sy_vl y4, none, none, none, none, none, none] [] σ (E59_101 y3 y4 σ)) (x8 : Int32) (x9 : Int32) (x10 : Int32) (x11 : Int64) (x12 : Int32) (x13 : Int32) (σ : St) : Ab sy_vl κ 59 [sy_vr 0, sy_vi x8, sy_vi x9, sy_vi x10, sy_vl x11, none, sy_vi x12, sy_vi x13, none, none, none] [] σ (m6_chance_L59b  K59 E59_101 x8 x9 x10 x11 x12 x13 σ) := by
  unfold m6_chance_L59b
  refine ab_iload hκ dX6_chance_59 rfl ?_
  refine ab_iload hκ dX6_chance_61 rfl ?_
  refine ab_icmp_ge (tgt := 101) hκ dX6_chance_63 rfl ?_ ?_
  · refine ab_fg (lv' := [sy_vr 0, none, none, sy_vi x10, sy_vl x11, none, none, none, none, none, none]) [1, 2, 6, 7] rfl ?_
    exact hE59_101 x10 x11 σ
  · refine ab_aload_n hκ dX6_chance_66 rfl ?_
    refine ab_getf (v := .ref 50) hκ (sy_o6 rfl) kf_RX6_64 rfl dX6_chance_67 rfl ?_
    refine ab_iload hκ dX6_chance_70 rfl ?_
    refine ab_iald hκ rfl dX6_chance_72 ?_
    refine ab_iload_n hκ dX6_chance_73 rfl ?_
    refine ab_ishr hκ dX6_chance_74 ?_
    refine ab_iconst (v := 1) hκ dX6_chance_75 rfl ?_
    refine ab_iand hκ dX6_chance_76 ?_
    refine ab_if_eq (tgt := 95) hκ dX6_chance_77 rfl ?_ ?_
    · refine ab_iinc (v := (x13 + 1)) (lv' := [sy_vr 0, sy_vi x8, sy_vi x9, sy_vi x10, sy_vl x11, none, sy_vi x12, sy_vi (x13 + 1), none, none, none]) hκ dX6_chance_95 rfl rfl (by decide) rfl ?_
      refine ab_goto (tgt := 59) hκ dX6_chance_98 rfl ?_
      exact hK59 x8 x9 x10 x11 x12 (x13 + 1) σ
    · refine ab_lload hκ dX6_chance_80 rfl ?_
      refine ab_aload_n hκ dX6_chance_82 rfl ?_
      refine ab_iload_n hκ dX6_chance_83 rfl ?_
      refine ab_iload hκ dX6_chance_84 rfl ?_
      refine ab_cSi (vs := [.int x13]) (st := [.int x8, .ref 0, .long x11]) hκ dX6_chance_86 kl_RX6_247 ki_J6_bitCount_0f7a4 kv_J6_bitCount_0f7a4 (mj6_bitCount_0f7a4_ok x13 σ) rfl (by decide) (Nat.le_of_ble_eq_true rfl) rfl (fun r15 σ14 => ?_)
      refine ab_cVl (vs := [.int x8, .int r15]) (st := [.long x11]) hκ dX6_chance_89 kl_RX6_252 ki_X6_weight kv_X6_weight (sy_o6 rfl) rfl rfl (m6_weight_ok x8 r15 σ14) rfl (by decide) (Nat.le_of_ble_eq_true rfl) rfl (fun r17 σ16 => ?_)
      refine ab_ladd hκ dX6_chance_92 ?_
      refine ab_ltl (fun v18 => ?_)
      refine ab_lstore (lv' := [sy_vr 0, sy_vi x8, sy_vi x9, sy_vi x10, sy_vl v18, none, sy_vi x12, sy_vi x13, none, none, none]) hκ dX6_chance_93 (by decide) rfl ?_
      refine ab_iinc (v := (x13 + 1)) (lv' := [sy_vr 0, sy_vi x8, sy_vi x9, sy_vi x10, sy_vl v18, none, sy_vi x12, sy_vi (x13 + 1), none, none, none]) hκ dX6_chance_95 rfl rfl (by decide) rfl ?_
      refine ab_goto (tgt := 59) hκ dX6_chance_98 rfl ?_
      exact hK59 x8 x9 x10 v18 x12 (x13 + 1) σ16
theorem m6_chance_L59_ok {κ : Kx} (hκ : Gd κ cX6_chance 11 RX6 (some .long) 4) {E59_101 : Int32 → Int64 → St → Option (Int64 × St)} (hE59_101 : ∀ (y3 : Int32) (y4 : Int64) (σ : St), Ab sy_vl κ 101 [sy_vr 0, none, none, sy_vi y3, sy_vl y4, none, none, none, none, none, none] [] σ (E59_101 y3 y4 σ)) : ∀ (n : Nat) (x8 : Int32) (x9 : Int32) (x10 : Int32) (x11 : Int64) (x12 : Int32) (x13 : Int32) (σ : St), Ab sy_vl κ 59 [sy_vr 0, sy_vi x8, sy_vi x9, sy_vi x10, sy_vl x11, none, sy_vi x12, sy_vi x13, none, none, none] [] σ (m6_chance_L59  E59_101 n x8 x9 x10 x11 x12 x13 σ) := by
  intro n
  induction n with
  | zero => intros; exact ab_none
  | succ n ih => exact fun x8 x9 x10 x11 x12 x13 σ => m6_chance_L59b_ok hκ   ih hE59_101 x8 x9 x10 x11 x12 x13 σ
def m6_chance_L121b (K121 : Int32 → Int64 → Int32 → Int64 → Int32 → St → Option (Int64 × St)) (E121_161 : Int32 → Int64 → Int64 → St → Option (Int64 × St)) (x24 : Int32) (x25 : Int64) (x26 : Int32) (x27 : Int64) (x28 : Int32) (σ : St) : Option (Int64 × St) := if x26 ≤ x28 then (E121_161 x24 x25 x27 σ) else (sy_dl 2 (if (lg_cmp (x25 - x25 / 2 * 2) 0) = 0 then (sy_dl 2 (sy_lt (x25 / 2) (fun v29 => sy_dl 2 (sy_lt (x27 / 2) (fun v30 => K121 x24 v29 x26 v30 (x28 + 1) σ))))) else (E121_161 x24 x25 x27 σ)))
def m6_chance_L121 (E121_161 : Int32 → Int64 → Int64 → St → Option (Int64 × St)) : Nat → Int32 → Int64 → Int32 → Int64 → Int32 → St → Option (Int64 × St)
  | 0 => fun _ _ _ _ _ _ => none
  | n + 1 => m6_chance_L121b  (m6_chance_L121  E121_161 n) E121_161
set_option maxRecDepth 100000 in
set_option maxHeartbeats 4000000 in
theorem m6_chance_L121b_ok {κ : Kx} (hκ : Gd κ cX6_chance 11 RX6 (some .long) 4) {K121 : Int32 → Int64 → Int32 → Int64 → Int32 → St → Option (Int64 × St)} (hK121 : ∀ (x24 : Int32) (x25 : Int64) (x26 : Int32) (x27 : Int64) (x28 : Int32) (σ : St), Ab sy_vl κ 121 [none, none, none, sy_vi x24, sy_vl x25, none, none, sy_vi x26, sy_vl x27, none, sy_vi x28] [] σ (K121 x24 x25 x26 x27 x28 σ)) {E121_161 : Int32 → Int64 → Int64 → St → Option (Int64 × St)} (hE121_161 : ∀ (y3 : Int32) (y4 : Int64) (y8 : Int64) (σ : St), Ab sy_vl κ 161 [none, none, none, sy_vi y3, sy_vl y4, none, none, none, sy_vl y8, none, none] [] σ (E121_161 y3 y4 y8 σ)) (x24 : Int32) (x25 : Int64) (x26 : Int32) (x27 : Int64) (x28 : Int32) (σ : St) : Ab sy_vl κ 121 [none, none, none, sy_vi x24, sy_vl x25, none, none, sy_vi x26, sy_vl x27, none, sy_vi x28] [] σ (m6_chance_L121b  K121 E121_161 x24 x25 x26 x27 x28 σ) := by
  unfold m6_chance_L121b
  refine ab_iload hκ dX6_chance_121 rfl ?_
  refine ab_iload hκ dX6_chance_123 rfl ?_
  refine ab_icmp_ge (tgt := 161) hκ dX6_chance_125 rfl ?_ ?_
  · refine ab_fg (lv' := [none, none, none, sy_vi x24, sy_vl x25, none, none, none, sy_vl x27, none, none]) [7, 10] rfl ?_
    exact hE121_161 x24 x25 x27 σ
  · refine ab_lload hκ dX6_chance_128 rfl ?_
    refine ab_ldc2 hκ dX6_chance_130 kn_RX6_256 ?_
    refine ab_lrem hκ dX6_chance_133 ?_
    refine ab_lconst (v := 0) hκ dX6_chance_134 rfl ?_
    refine ab_lcmp hκ dX6_chance_135 ?_
    refine ab_if_ne (tgt := 161) hκ dX6_chance_136 rfl ?_ ?_
    · refine ab_fg (lv' := [none, none, none, sy_vi x24, sy_vl x25, none, none, none, sy_vl x27, none, none]) [7, 10] rfl ?_
      exact hE121_161 x24 x25 x27 σ
    · refine ab_lload hκ dX6_chance_139 rfl ?_
      refine ab_ldc2 hκ dX6_chance_141 kn_RX6_256 ?_
      refine ab_ldiv hκ dX6_chance_144 ?_
      refine ab_ltl (fun v29 => ?_)
      refine ab_lstore (lv' := [none, none, none, sy_vi x24, sy_vl v29, none, none, sy_vi x26, sy_vl x27, none, sy_vi x28]) hκ dX6_chance_145 (by decide) rfl ?_
      refine ab_lload hκ dX6_chance_147 rfl ?_
      refine ab_ldc2 hκ dX6_chance_149 kn_RX6_256 ?_
      refine ab_ldiv hκ dX6_chance_152 ?_
      refine ab_ltl (fun v30 => ?_)
      refine ab_lstore (lv' := [none, none, none, sy_vi x24, sy_vl v29, none, none, sy_vi x26, sy_vl v30, none, sy_vi x28]) hκ dX6_chance_153 (by decide) rfl ?_
      refine ab_iinc (v := (x28 + 1)) (lv' := [none, none, none, sy_vi x24, sy_vl v29, none, none, sy_vi x26, sy_vl v30, none, sy_vi (x28 + 1)]) hκ dX6_chance_155 rfl rfl (by decide) rfl ?_
      refine ab_goto (tgt := 121) hκ dX6_chance_158 rfl ?_
      exact hK121 x24 v29 x26 v30 (x28 + 1) σ
theorem m6_chance_L121_ok {κ : Kx} (hκ : Gd κ cX6_chance 11 RX6 (some .long) 4) {E121_161 : Int32 → Int64 → Int64 → St → Option (Int64 × St)} (hE121_161 : ∀ (y3 : Int32) (y4 : Int64) (y8 : Int64) (σ : St), Ab sy_vl κ 161 [none, none, none, sy_vi y3, sy_vl y4, none, none, none, sy_vl y8, none, none] [] σ (E121_161 y3 y4 y8 σ)) : ∀ (n : Nat) (x24 : Int32) (x25 : Int64) (x26 : Int32) (x27 : Int64) (x28 : Int32) (σ : St), Ab sy_vl κ 121 [none, none, none, sy_vi x24, sy_vl x25, none, none, sy_vi x26, sy_vl x27, none, sy_vi x28] [] σ (m6_chance_L121  E121_161 n x24 x25 x26 x27 x28 σ) := by
  intro n
  induction n with
  | zero => intros; exact ab_none
  | succ n ih => exact fun x24 x25 x26 x27 x28 σ => m6_chance_L121b_ok hκ   ih hE121_161 x24 x25 x26 x27 x28 σ
def m6_chance (a1 : Int32) (a2 : Int32) (a3 : Int32) (σ : St) : Option (Int64 × St) := sy_bd (m6_within a1 0 16 σ) (fun r2 σ1 => if r2 = 0 then (some ((-9223372036854775806), σ1)) else (sy_bd (m6_isNote a2 σ1) (fun r4 σ3 => if r4 = 0 then (some ((-9223372036854775806), σ3)) else (sy_bd (m6_within a3 0 1 σ3) (fun r6 σ5 => if r6 = 0 then (some ((-9223372036854775806), σ5)) else (if (σ5 0 15) = 0 then (sy_bd (m6_learnSubsets σ5) (fun _ σ35 => sy_lt (1 <<< ((σ35 5 10) &&& 31)) (fun v36 => m6_chance_L59 (fun y37 y38 σ39 => sy_lt (4 * (σ39 5 10)) (fun v40 => sy_lt (1 <<< (Int32.toInt64 v40 &&& 63)) (fun v41 => m6_chance_L121 (fun y42 y43 y44 σ45 => if y42 = 0 then (some (y43, σ45)) else (some (y44, σ45))) sy_FU y37 y38 v40 v41 0 σ39))) sy_FU a1 a2 a3 0 v36 0 σ35))) else (sy_lt (1 <<< ((σ5 5 10) &&& 31)) (fun v7 => m6_chance_L59 (fun y19 y20 σ21 => sy_lt (4 * (σ21 5 10)) (fun v22 => sy_lt (1 <<< (Int32.toInt64 v22 &&& 63)) (fun v23 => m6_chance_L121 (fun y31 y32 y33 σ34 => if y31 = 0 then (some (y32, σ34)) else (some (y33, σ34))) sy_FU y19 y20 v22 v23 0 σ21))) sy_FU a1 a2 a3 0 v7 0 σ5))))))))
set_option maxRecDepth 100000 in
set_option maxHeartbeats 4000000 in
theorem m6_chance_ok (a1 : Int32) (a2 : Int32) (a3 : Int32) (σ : St) : Cok sy_vl yX6_chance cX6_chance 11 (some .long) 4 [.ref 0, .int a1, .int a2, .int a3] σ (m6_chance a1 a2 a3 σ) := by
  refine cok_of (own := RX6) (by decide) rfl (fun ad => Nat.le_of_ble_eq_true rfl) (fun κ hκ => ?_)
  show Ab sy_vl κ 0 [sy_vr 0, sy_vi a1, sy_vi a2, sy_vi a3, none, none, none, none, none, none, none] [] σ (m6_chance a1 a2 a3 σ)
  unfold m6_chance
  refine ab_iload_n hκ dX6_chance_0 rfl ?_
  refine ab_iconst (v := 0) hκ dX6_chance_1 rfl ?_
  refine ab_bipush (v := 16) hκ dX6_chance_2 rfl ?_
  refine ab_cSi (vs := [.int a1, .int 0, .int 16]) (st := []) hκ dX6_chance_4 kl_RX6_89 ki_X6_within kv_X6_within (m6_within_ok a1 0 16 σ) rfl (by decide) (Nat.le_of_ble_eq_true rfl) rfl (fun r2 σ1 => ?_)
  refine ab_if_eq (tgt := 27) hκ dX6_chance_7 rfl ?_ ?_
  · refine ab_ldc2 hκ dX6_chance_27 kn_RX6_242 ?_
    exact ab_lret hκ dX6_chance_30
  · refine ab_aload_n hκ dX6_chance_10 rfl ?_
    refine ab_iload_n hκ dX6_chance_11 rfl ?_
    refine ab_cVi (vs := [.int a2]) (st := []) hκ dX6_chance_12 kl_RX6_169 ki_X6_isNote kv_X6_isNote (sy_o6 rfl) rfl rfl (m6_isNote_ok a2 σ1) rfl (by decide) (Nat.le_of_ble_eq_true rfl) rfl (fun r4 σ3 => ?_)
    refine ab_if_eq (tgt := 27) hκ dX6_chance_15 rfl ?_ ?_
    · refine ab_ldc2 hκ dX6_chance_27 kn_RX6_242 ?_
      exact ab_lret hκ dX6_chance_30
    · refine ab_iload_n hκ dX6_chance_18 rfl ?_
      refine ab_iconst (v := 0) hκ dX6_chance_19 rfl ?_
      refine ab_iconst (v := 1) hκ dX6_chance_20 rfl ?_
      refine ab_cSi (vs := [.int a3, .int 0, .int 1]) (st := []) hκ dX6_chance_21 kl_RX6_89 ki_X6_within kv_X6_within (m6_within_ok a3 0 1 σ3) rfl (by decide) (Nat.le_of_ble_eq_true rfl) rfl (fun r6 σ5 => ?_)
      refine ab_if_ne (tgt := 31) hκ dX6_chance_24 rfl ?_ ?_
      · refine ab_aload_n hκ dX6_chance_31 rfl ?_
        refine ab_getf (v := .int (σ5 0 15)) hκ (sy_o6 rfl) kf_RX6_81 rfl dX6_chance_32 rfl ?_
        refine ab_if_ne (tgt := 42) hκ dX6_chance_35 rfl ?_ ?_
        · refine ab_lconst (v := 0) hκ dX6_chance_42 rfl ?_
          refine ab_lstore (lv' := [sy_vr 0, sy_vi a1, sy_vi a2, sy_vi a3, sy_vl 0, none, none, none, none, none, none]) hκ dX6_chance_43 (by decide) rfl ?_
          refine ab_iconst (v := 1) hκ dX6_chance_45 rfl ?_
          refine ab_aload_n hκ dX6_chance_46 rfl ?_
          refine ab_getf (v := .ref 5) hκ (sy_o6 rfl) kf_RX6_24 rfl dX6_chance_47 rfl ?_
          refine ab_getf (v := .int (σ5 5 10)) hκ (sy_o0 (Or.inl rfl)) kf_RX6_142 rfl dX6_chance_50 rfl ?_
          refine ab_ishl hκ dX6_chance_53 ?_
          refine ab_lti (fun v7 => ?_)
          refine ab_istore (lv' := [sy_vr 0, sy_vi a1, sy_vi a2, sy_vi a3, sy_vl 0, none, sy_vi v7, none, none, none, none]) hκ dX6_chance_54 (by decide) rfl ?_
          refine ab_iconst (v := 0) hκ dX6_chance_56 rfl ?_
          refine ab_istore (lv' := [sy_vr 0, sy_vi a1, sy_vi a2, sy_vi a3, sy_vl 0, none, sy_vi v7, sy_vi 0, none, none, none]) hκ dX6_chance_57 (by decide) rfl ?_
          refine m6_chance_L59_ok hκ ?_ _ _ _ _ _ _ _ _
          · intro y19 y20 σ21
            refine ab_iconst (v := 4) hκ dX6_chance_101 rfl ?_
            refine ab_aload_n hκ dX6_chance_102 rfl ?_
            refine ab_getf (v := .ref 5) hκ (sy_o6 rfl) kf_RX6_24 rfl dX6_chance_103 rfl ?_
            refine ab_getf (v := .int (σ21 5 10)) hκ (sy_o0 (Or.inl rfl)) kf_RX6_142 rfl dX6_chance_106 rfl ?_
            refine ab_imul hκ dX6_chance_109 ?_
            refine ab_lti (fun v22 => ?_)
            refine ab_istore (lv' := [sy_vr 0, none, none, sy_vi y19, sy_vl y20, none, none, sy_vi v22, none, none, none]) hκ dX6_chance_110 (by decide) rfl ?_
            refine ab_lconst (v := 1) hκ dX6_chance_112 rfl ?_
            refine ab_iload hκ dX6_chance_113 rfl ?_
            refine ab_lshl hκ dX6_chance_115 ?_
            refine ab_ltl (fun v23 => ?_)
            refine ab_lstore (lv' := [sy_vr 0, none, none, sy_vi y19, sy_vl y20, none, none, sy_vi v22, sy_vl v23, none, none]) hκ dX6_chance_116 (by decide) rfl ?_
            refine ab_iconst (v := 0) hκ dX6_chance_118 rfl ?_
            refine ab_istore (lv' := [sy_vr 0, none, none, sy_vi y19, sy_vl y20, none, none, sy_vi v22, sy_vl v23, none, sy_vi 0]) hκ dX6_chance_119 (by decide) rfl ?_
            refine ab_fg (lv' := [none, none, none, sy_vi y19, sy_vl y20, none, none, sy_vi v22, sy_vl v23, none, sy_vi 0]) [0] rfl ?_
            refine m6_chance_L121_ok hκ ?_ _ _ _ _ _ _ _
            · intro y31 y32 y33 σ34
              refine ab_iload_n hκ dX6_chance_161 rfl ?_
              refine ab_if_ne (tgt := 170) hκ dX6_chance_162 rfl ?_ ?_
              · refine ab_lload hκ dX6_chance_170 rfl ?_
                exact ab_lret hκ dX6_chance_172
              · refine ab_lload hκ dX6_chance_165 rfl ?_
                refine ab_goto (tgt := 172) hκ dX6_chance_167 rfl ?_
                exact ab_lret hκ dX6_chance_172
        · refine ab_aload_n hκ dX6_chance_38 rfl ?_
          refine ab_cVv (vs := []) (st := []) hκ dX6_chance_39 kl_RX6_244 ki_X6_learnSubsets kv_X6_learnSubsets (sy_o6 rfl) rfl rfl (m6_learnSubsets_ok σ5) rfl (by decide) (Nat.le_of_ble_eq_true rfl) rfl (fun _ σ35 => ?_)
          refine ab_lconst (v := 0) hκ dX6_chance_42 rfl ?_
          refine ab_lstore (lv' := [sy_vr 0, sy_vi a1, sy_vi a2, sy_vi a3, sy_vl 0, none, none, none, none, none, none]) hκ dX6_chance_43 (by decide) rfl ?_
          refine ab_iconst (v := 1) hκ dX6_chance_45 rfl ?_
          refine ab_aload_n hκ dX6_chance_46 rfl ?_
          refine ab_getf (v := .ref 5) hκ (sy_o6 rfl) kf_RX6_24 rfl dX6_chance_47 rfl ?_
          refine ab_getf (v := .int (σ35 5 10)) hκ (sy_o0 (Or.inl rfl)) kf_RX6_142 rfl dX6_chance_50 rfl ?_
          refine ab_ishl hκ dX6_chance_53 ?_
          refine ab_lti (fun v36 => ?_)
          refine ab_istore (lv' := [sy_vr 0, sy_vi a1, sy_vi a2, sy_vi a3, sy_vl 0, none, sy_vi v36, none, none, none, none]) hκ dX6_chance_54 (by decide) rfl ?_
          refine ab_iconst (v := 0) hκ dX6_chance_56 rfl ?_
          refine ab_istore (lv' := [sy_vr 0, sy_vi a1, sy_vi a2, sy_vi a3, sy_vl 0, none, sy_vi v36, sy_vi 0, none, none, none]) hκ dX6_chance_57 (by decide) rfl ?_
          refine m6_chance_L59_ok hκ ?_ _ _ _ _ _ _ _ _
          · intro y37 y38 σ39
            refine ab_iconst (v := 4) hκ dX6_chance_101 rfl ?_
            refine ab_aload_n hκ dX6_chance_102 rfl ?_
            refine ab_getf (v := .ref 5) hκ (sy_o6 rfl) kf_RX6_24 rfl dX6_chance_103 rfl ?_
            refine ab_getf (v := .int (σ39 5 10)) hκ (sy_o0 (Or.inl rfl)) kf_RX6_142 rfl dX6_chance_106 rfl ?_
            refine ab_imul hκ dX6_chance_109 ?_
            refine ab_lti (fun v40 => ?_)
            refine ab_istore (lv' := [sy_vr 0, none, none, sy_vi y37, sy_vl y38, none, none, sy_vi v40, none, none, none]) hκ dX6_chance_110 (by decide) rfl ?_
            refine ab_lconst (v := 1) hκ dX6_chance_112 rfl ?_
            refine ab_iload hκ dX6_chance_113 rfl ?_
            refine ab_lshl hκ dX6_chance_115 ?_
            refine ab_ltl (fun v41 => ?_)
            refine ab_lstore (lv' := [sy_vr 0, none, none, sy_vi y37, sy_vl y38, none, none, sy_vi v40, sy_vl v41, none, none]) hκ dX6_chance_116 (by decide) rfl ?_
            refine ab_iconst (v := 0) hκ dX6_chance_118 rfl ?_
            refine ab_istore (lv' := [sy_vr 0, none, none, sy_vi y37, sy_vl y38, none, none, sy_vi v40, sy_vl v41, none, sy_vi 0]) hκ dX6_chance_119 (by decide) rfl ?_
            refine ab_fg (lv' := [none, none, none, sy_vi y37, sy_vl y38, none, none, sy_vi v40, sy_vl v41, none, sy_vi 0]) [0] rfl ?_
            refine m6_chance_L121_ok hκ ?_ _ _ _ _ _ _ _
            · intro y42 y43 y44 σ45
              refine ab_iload_n hκ dX6_chance_161 rfl ?_
              refine ab_if_ne (tgt := 170) hκ dX6_chance_162 rfl ?_ ?_
              · refine ab_lload hκ dX6_chance_170 rfl ?_
                exact ab_lret hκ dX6_chance_172
              · refine ab_lload hκ dX6_chance_165 rfl ?_
                refine ab_goto (tgt := 172) hκ dX6_chance_167 rfl ?_
                exact ab_lret hκ dX6_chance_172
      · refine ab_ldc2 hκ dX6_chance_27 kn_RX6_242 ?_
        exact ab_lret hκ dX6_chance_30
-- BreathBand.nextSeed(I)I, depth 0
def m6_nextSeed (a1 : Int32) (σ : St) : Option (Int32 × St) := some (((1103515245 * a1) + 12345), σ)
set_option maxRecDepth 100000 in
set_option maxHeartbeats 4000000 in
theorem m6_nextSeed_ok (a1 : Int32) (σ : St) : Cok sy_vi yX6_nextSeed cX6_nextSeed 1 (some .int) 0 [.int a1] σ (m6_nextSeed a1 σ) := by
  refine cok_of (own := RX6) (by decide) rfl (fun ad => Nat.le_of_ble_eq_true rfl) (fun κ hκ => ?_)
  show Ab sy_vi κ 0 [sy_vi a1] [] σ (m6_nextSeed a1 σ)
  unfold m6_nextSeed
  refine ab_ldcw hκ dX6_nextSeed_0 kn_RX6_423 ?_
  refine ab_iload_n hκ dX6_nextSeed_3 rfl ?_
  refine ab_imul hκ dX6_nextSeed_4 ?_
  refine ab_sipush (v := 12345) hκ dX6_nextSeed_5 rfl ?_
  refine ab_iadd hκ dX6_nextSeed_8 ?_
  exact ab_iret hκ dX6_nextSeed_9
-- BreathBand.drawNotes(II)V, depth 2
def m6_drawNotes_L16b (K16 : Int32 → Int32 → Int32 → St → Option (Unit × St)) (E16_68 : St → Option (Unit × St)) (x1 : Int32) (x2 : Int32) (x3 : Int32) (σ : St) : Option (Unit × St) := if x1 ≤ x3 then (E16_68  σ) else (sy_bd (m6_nextSeed x2 σ) (fun r5 σ4 => sy_dv 24 (sy_lt ((Int32.toUInt32 r5 >>> (Int32.toUInt32 16 &&& Int32.toUInt32 31)).toInt32 - (Int32.toUInt32 r5 >>> (Int32.toUInt32 16 &&& Int32.toUInt32 31)).toInt32 / 24 * 24) (fun v6 => sy_bd (m6_nextSeed r5 σ4) (fun r8 σ7 => sy_dv (σ7 5 0) (sy_bd (m0_addNote 15 v6 ((Int32.toUInt32 r8 >>> (Int32.toUInt32 16 &&& Int32.toUInt32 31)).toInt32 - (Int32.toUInt32 r8 >>> (Int32.toUInt32 16 &&& Int32.toUInt32 31)).toInt32 / (σ7 5 0) * (σ7 5 0)) σ7) (fun _ σ9 => K16 x1 r8 (x3 + 1) σ9)))))))
def m6_drawNotes_L16 (E16_68 : St → Option (Unit × St)) : Nat → Int32 → Int32 → Int32 → St → Option (Unit × St)
  | 0 => fun _ _ _ _ => none
  | n + 1 => m6_drawNotes_L16b  (m6_drawNotes_L16  E16_68 n) E16_68
set_option maxRecDepth 100000 in
set_option maxHeartbeats 4000000 in
theorem m6_drawNotes_L16b_ok {κ : Kx} (hκ : Gd κ cX6_drawNotes 6 RX6 none 2) {K16 : Int32 → Int32 → Int32 → St → Option (Unit × St)} (hK16 : ∀ (x1 : Int32) (x2 : Int32) (x3 : Int32) (σ : St), Ab sy_cu κ 16 [sy_vr 0, none, sy_vi x1, sy_vi x2, sy_vi x3, none] [] σ (K16 x1 x2 x3 σ)) {E16_68 : St → Option (Unit × St)} (hE16_68 : ∀ (σ : St), Ab sy_cu κ 68 [none, none, none, none, none, none] [] σ (E16_68  σ)) (x1 : Int32) (x2 : Int32) (x3 : Int32) (σ : St) : Ab sy_cu κ 16 [sy_vr 0, none, sy_vi x1, sy_vi x2, sy_vi x3, none] [] σ (m6_drawNotes_L16b  K16 E16_68 x1 x2 x3 σ) := by
  unfold m6_drawNotes_L16b
  refine ab_iload hκ dX6_drawNotes_16 rfl ?_
  refine ab_iload_n hκ dX6_drawNotes_18 rfl ?_
  refine ab_icmp_ge (tgt := 68) hκ dX6_drawNotes_19 rfl ?_ ?_
  · refine ab_fg (lv' := [none, none, none, none, none, none]) [0, 2, 3, 4] rfl ?_
    exact hE16_68  σ
  · refine ab_iload_n hκ dX6_drawNotes_22 rfl ?_
    refine ab_cSi (vs := [.int x2]) (st := []) hκ dX6_drawNotes_23 kl_RX6_417 ki_X6_nextSeed kv_X6_nextSeed (m6_nextSeed_ok x2 σ) rfl (by decide) (Nat.le_of_ble_eq_true rfl) rfl (fun r5 σ4 => ?_)
    refine ab_istore_n (lv' := [sy_vr 0, none, sy_vi x1, sy_vi r5, sy_vi x3, none]) hκ dX6_drawNotes_26 rfl (by decide) rfl ?_
    refine ab_iload_n hκ dX6_drawNotes_27 rfl ?_
    refine ab_bipush (v := 16) hκ dX6_drawNotes_28 rfl ?_
    refine ab_iushr hκ dX6_drawNotes_30 ?_
    refine ab_bipush (v := 24) hκ dX6_drawNotes_31 rfl ?_
    refine ab_irem hκ dX6_drawNotes_33 ?_
    refine ab_lti (fun v6 => ?_)
    refine ab_istore (lv' := [sy_vr 0, none, sy_vi x1, sy_vi r5, sy_vi x3, sy_vi v6]) hκ dX6_drawNotes_34 (by decide) rfl ?_
    refine ab_iload_n hκ dX6_drawNotes_36 rfl ?_
    refine ab_cSi (vs := [.int r5]) (st := []) hκ dX6_drawNotes_37 kl_RX6_417 ki_X6_nextSeed kv_X6_nextSeed (m6_nextSeed_ok r5 σ4) rfl (by decide) (Nat.le_of_ble_eq_true rfl) rfl (fun r8 σ7 => ?_)
    refine ab_istore_n (lv' := [sy_vr 0, none, sy_vi x1, sy_vi r8, sy_vi x3, sy_vi v6]) hκ dX6_drawNotes_40 rfl (by decide) rfl ?_
    refine ab_aload_n hκ dX6_drawNotes_41 rfl ?_
    refine ab_getf (v := .ref 15) hκ (sy_o6 rfl) kf_RX6_28 rfl dX6_drawNotes_42 rfl ?_
    refine ab_iload hκ dX6_drawNotes_45 rfl ?_
    refine ab_iload_n hκ dX6_drawNotes_47 rfl ?_
    refine ab_bipush (v := 16) hκ dX6_drawNotes_48 rfl ?_
    refine ab_iushr hκ dX6_drawNotes_50 ?_
    refine ab_aload_n hκ dX6_drawNotes_51 rfl ?_
    refine ab_getf (v := .ref 5) hκ (sy_o6 rfl) kf_RX6_24 rfl dX6_drawNotes_52 rfl ?_
    refine ab_getf (v := .int (σ7 5 0)) hκ (sy_o0 (Or.inl rfl)) kf_RX6_193 rfl dX6_drawNotes_55 rfl ?_
    refine ab_irem hκ dX6_drawNotes_58 ?_
    refine ab_cVv (vs := [.int v6, .int ((Int32.toUInt32 r8 >>> (Int32.toUInt32 16 &&& Int32.toUInt32 31)).toInt32 - (Int32.toUInt32 r8 >>> (Int32.toUInt32 16 &&& Int32.toUInt32 31)).toInt32 / (σ7 5 0) * (σ7 5 0))]) (st := []) hκ dX6_drawNotes_59 kl_RX6_420 ki_X0_addNote kv_X0_addNote (sy_o0 (Or.inr rfl)) rfl rfl (m0_addNote_ok 15 v6 ((Int32.toUInt32 r8 >>> (Int32.toUInt32 16 &&& Int32.toUInt32 31)).toInt32 - (Int32.toUInt32 r8 >>> (Int32.toUInt32 16 &&& Int32.toUInt32 31)).toInt32 / (σ7 5 0) * (σ7 5 0)) (Or.inr rfl) σ7) rfl (by decide) (Nat.le_of_ble_eq_true rfl) rfl (fun _ σ9 => ?_)
    refine ab_iinc (v := (x3 + 1)) (lv' := [sy_vr 0, none, sy_vi x1, sy_vi r8, sy_vi (x3 + 1), sy_vi v6]) hκ dX6_drawNotes_62 rfl rfl (by decide) rfl ?_
    refine ab_goto (tgt := 16) hκ dX6_drawNotes_65 rfl ?_
    refine ab_fg (lv' := [sy_vr 0, none, sy_vi x1, sy_vi r8, sy_vi (x3 + 1), none]) [5] rfl ?_
    exact hK16 x1 r8 (x3 + 1) σ9
theorem m6_drawNotes_L16_ok {κ : Kx} (hκ : Gd κ cX6_drawNotes 6 RX6 none 2) {E16_68 : St → Option (Unit × St)} (hE16_68 : ∀ (σ : St), Ab sy_cu κ 68 [none, none, none, none, none, none] [] σ (E16_68  σ)) : ∀ (n : Nat) (x1 : Int32) (x2 : Int32) (x3 : Int32) (σ : St), Ab sy_cu κ 16 [sy_vr 0, none, sy_vi x1, sy_vi x2, sy_vi x3, none] [] σ (m6_drawNotes_L16  E16_68 n x1 x2 x3 σ) := by
  intro n
  induction n with
  | zero => intros; exact ab_none
  | succ n ih => exact fun x1 x2 x3 σ => m6_drawNotes_L16b_ok hκ   ih hE16_68 x1 x2 x3 σ
def m6_drawNotes (a1 : Int32) (a2 : Int32) (σ : St) : Option (Unit × St) := if (σ 5 0) = 0 then (some ((), σ)) else (m6_drawNotes_L16 (fun  σ10 => some ((), σ10)) sy_FU a2 a1 0 σ)
set_option maxRecDepth 100000 in
set_option maxHeartbeats 4000000 in
theorem m6_drawNotes_ok (a1 : Int32) (a2 : Int32) (σ : St) : Cok sy_cu yX6_drawNotes cX6_drawNotes 6 none 2 [.ref 0, .int a1, .int a2] σ (m6_drawNotes a1 a2 σ) := by
  refine cok_of (own := RX6) (by decide) rfl (fun ad => Nat.le_of_ble_eq_true rfl) (fun κ hκ => ?_)
  show Ab sy_cu κ 0 [sy_vr 0, sy_vi a1, sy_vi a2, none, none, none] [] σ (m6_drawNotes a1 a2 σ)
  unfold m6_drawNotes
  refine ab_aload_n hκ dX6_drawNotes_0 rfl ?_
  refine ab_getf (v := .ref 5) hκ (sy_o6 rfl) kf_RX6_24 rfl dX6_drawNotes_1 rfl ?_
  refine ab_getf (v := .int (σ 5 0)) hκ (sy_o0 (Or.inl rfl)) kf_RX6_193 rfl dX6_drawNotes_4 rfl ?_
  refine ab_if_ne (tgt := 11) hκ dX6_drawNotes_7 rfl ?_ ?_
  · refine ab_iload_n hκ dX6_drawNotes_11 rfl ?_
    refine ab_istore_n (lv' := [sy_vr 0, sy_vi a1, sy_vi a2, sy_vi a1, none, none]) hκ dX6_drawNotes_12 rfl (by decide) rfl ?_
    refine ab_iconst (v := 0) hκ dX6_drawNotes_13 rfl ?_
    refine ab_istore (lv' := [sy_vr 0, sy_vi a1, sy_vi a2, sy_vi a1, sy_vi 0, none]) hκ dX6_drawNotes_14 (by decide) rfl ?_
    refine ab_fg (lv' := [sy_vr 0, none, sy_vi a2, sy_vi a1, sy_vi 0, none]) [1] rfl ?_
    refine m6_drawNotes_L16_ok hκ ?_ _ _ _ _ _
    · intro  σ10
      exact ab_vret hκ dX6_drawNotes_68
  · exact ab_vret hκ dX6_drawNotes_10
-- BreathBand.years(III)I, depth 3
def m6_years (a1 : Int32) (a2 : Int32) (a3 : Int32) (σ : St) : Option (Int32 × St) := sy_bd (m6_within a2 0 16 σ) (fun r2 σ1 => if r2 = 0 then (some ((-2), σ1)) else (sy_bd (m6_within a3 0 1 σ1) (fun r4 σ3 => if r4 = 0 then (some ((-2), σ3)) else (sy_bd (m0_become 15 5 σ3) (fun _ σ5 => sy_bd (m0_clearNotes 15 σ5) (fun _ σ6 => sy_bd (m6_drawNotes a1 a2 σ6) (fun _ σ7 => sy_bd (m3_play 34 15 σ7) (fun _ σ8 => if a3 = 0 then (some ((σ8 34 7), σ8)) else (sy_gd 23 24 (some ((σ8 36 (sy_ix 23)), σ8)))))))))))
set_option maxRecDepth 100000 in
set_option maxHeartbeats 4000000 in
theorem m6_years_ok (a1 : Int32) (a2 : Int32) (a3 : Int32) (σ : St) : Cok sy_vi yX6_years cX6_years 4 (some .int) 3 [.ref 0, .int a1, .int a2, .int a3] σ (m6_years a1 a2 a3 σ) := by
  refine cok_of (own := RX6) (by decide) rfl (fun ad => Nat.le_of_ble_eq_true rfl) (fun κ hκ => ?_)
  show Ab sy_vi κ 0 [sy_vr 0, sy_vi a1, sy_vi a2, sy_vi a3] [] σ (m6_years a1 a2 a3 σ)
  unfold m6_years
  refine ab_iload_n hκ dX6_years_0 rfl ?_
  refine ab_iconst (v := 0) hκ dX6_years_1 rfl ?_
  refine ab_bipush (v := 16) hκ dX6_years_2 rfl ?_
  refine ab_cSi (vs := [.int a2, .int 0, .int 16]) (st := []) hκ dX6_years_4 kl_RX6_89 ki_X6_within kv_X6_within (m6_within_ok a2 0 16 σ) rfl (by decide) (Nat.le_of_ble_eq_true rfl) rfl (fun r2 σ1 => ?_)
  refine ab_if_eq (tgt := 19) hκ dX6_years_7 rfl ?_ ?_
  · refine ab_bipush (v := (-2)) hκ dX6_years_19 rfl ?_
    exact ab_iret hκ dX6_years_21
  · refine ab_iload_n hκ dX6_years_10 rfl ?_
    refine ab_iconst (v := 0) hκ dX6_years_11 rfl ?_
    refine ab_iconst (v := 1) hκ dX6_years_12 rfl ?_
    refine ab_cSi (vs := [.int a3, .int 0, .int 1]) (st := []) hκ dX6_years_13 kl_RX6_89 ki_X6_within kv_X6_within (m6_within_ok a3 0 1 σ1) rfl (by decide) (Nat.le_of_ble_eq_true rfl) rfl (fun r4 σ3 => ?_)
    refine ab_if_ne (tgt := 22) hκ dX6_years_16 rfl ?_ ?_
    · refine ab_aload_n hκ dX6_years_22 rfl ?_
      refine ab_getf (v := .ref 15) hκ (sy_o6 rfl) kf_RX6_28 rfl dX6_years_23 rfl ?_
      refine ab_aload_n hκ dX6_years_26 rfl ?_
      refine ab_getf (v := .ref 5) hκ (sy_o6 rfl) kf_RX6_24 rfl dX6_years_27 rfl ?_
      refine ab_cVv (vs := [.ref 5]) (st := []) hκ dX6_years_30 kl_RX6_224 ki_X0_become kv_X0_become (sy_o0 (Or.inr rfl)) rfl rfl (m0_become_ok 15 5 (Or.inr rfl) (Or.inl rfl) σ3) rfl (by decide) (Nat.le_of_ble_eq_true rfl) rfl (fun _ σ5 => ?_)
      refine ab_aload_n hκ dX6_years_33 rfl ?_
      refine ab_getf (v := .ref 15) hκ (sy_o6 rfl) kf_RX6_28 rfl dX6_years_34 rfl ?_
      refine ab_cVv (vs := []) (st := []) hκ dX6_years_37 kl_RX6_258 ki_X0_clearNotes kv_X0_clearNotes (sy_o0 (Or.inr rfl)) rfl rfl (m0_clearNotes_ok 15 (Or.inr rfl) σ5) rfl (by decide) (Nat.le_of_ble_eq_true rfl) rfl (fun _ σ6 => ?_)
      refine ab_aload_n hκ dX6_years_40 rfl ?_
      refine ab_iload_n hκ dX6_years_41 rfl ?_
      refine ab_iload_n hκ dX6_years_42 rfl ?_
      refine ab_cVv (vs := [.int a1, .int a2]) (st := []) hκ dX6_years_43 kl_RX6_261 ki_X6_drawNotes kv_X6_drawNotes (sy_o6 rfl) rfl rfl (m6_drawNotes_ok a1 a2 σ6) rfl (by decide) (Nat.le_of_ble_eq_true rfl) rfl (fun _ σ7 => ?_)
      refine ab_aload_n hκ dX6_years_46 rfl ?_
      refine ab_getf (v := .ref 34) hκ (sy_o6 rfl) kf_RX6_38 rfl dX6_years_47 rfl ?_
      refine ab_aload_n hκ dX6_years_50 rfl ?_
      refine ab_getf (v := .ref 15) hκ (sy_o6 rfl) kf_RX6_28 rfl dX6_years_51 rfl ?_
      refine ab_cVv (vs := [.ref 15]) (st := []) hκ dX6_years_54 kl_RX6_265 ki_X3_play kv_X3_play (sy_o3 (Or.inr rfl)) rfl rfl (m3_play_ok 34 15 (Or.inr rfl) (Or.inr rfl) σ7) rfl (by decide) (Nat.le_of_ble_eq_true rfl) rfl (fun _ σ8 => ?_)
      refine ab_iload_n hκ dX6_years_57 rfl ?_
      refine ab_if_ne (tgt := 71) hκ dX6_years_58 rfl ?_ ?_
      · refine ab_aload_n hκ dX6_years_71 rfl ?_
        refine ab_getf (v := .ref 34) hκ (sy_o6 rfl) kf_RX6_38 rfl dX6_years_72 rfl ?_
        refine ab_getf (v := .ref 36) hκ (sy_o3 (Or.inr rfl)) kf_RX6_163 rfl dX6_years_75 rfl ?_
        refine ab_bipush (v := 23) hκ dX6_years_78 rfl ?_
        refine ab_iald hκ rfl dX6_years_80 ?_
        exact ab_iret hκ dX6_years_81
      · refine ab_aload_n hκ dX6_years_61 rfl ?_
        refine ab_getf (v := .ref 34) hκ (sy_o6 rfl) kf_RX6_38 rfl dX6_years_62 rfl ?_
        refine ab_getf (v := .int (σ8 34 7)) hκ (sy_o3 (Or.inr rfl)) kf_RX6_184 rfl dX6_years_65 rfl ?_
        refine ab_goto (tgt := 81) hκ dX6_years_68 rfl ?_
        exact ab_iret hκ dX6_years_81
    · refine ab_bipush (v := (-2)) hκ dX6_years_19 rfl ?_
      exact ab_iret hκ dX6_years_21
-- BreathBand$Sheet.renew(II)V, depth 1
def m4_renew (this : Nat) (a1 : Int32) (a2 : Int32) (σ : St) : Option (Unit × St) := sy_zg 0 (sy_lt (sy_sf σ this 0 0) (fun σ1 => sy_lt (sy_sf σ1 this 1 a1) (fun σ2 => sy_lt (sy_sf σ2 this 2 a2) (fun σ3 => sy_bd (mj7_fill_53178 (this + 1) 60 0 σ3) (fun _ σ4 => some ((), σ4))))))
set_option maxRecDepth 100000 in
set_option maxHeartbeats 4000000 in
theorem m4_renew_ok (this : Nat) (a1 : Int32) (a2 : Int32) (hthis : sy_is4 this) (σ : St) : Cok sy_cu yX4_renew cX4_renew 3 none 1 [.ref this, .int a1, .int a2] σ (m4_renew this a1 a2 σ) := by
  refine cok_of (own := RX4) (by decide) rfl (fun ad => Nat.le_of_ble_eq_true rfl) (fun κ hκ => ?_)
  show Ab sy_cu κ 0 [sy_vr this, sy_vi a1, sy_vi a2] [] σ (m4_renew this a1 a2 σ)
  unfold m4_renew
  refine ab_aload_n hκ dX4_renew_0 rfl ?_
  refine ab_iconst (v := 0) hκ dX4_renew_1 rfl ?_
  refine ab_putz hκ (sy_o4 hthis) kp_RX4_9 rfl dX4_renew_2 ?_
  refine ab_lts (fun σ1 => ?_)
  refine ab_aload_n hκ dX4_renew_5 rfl ?_
  refine ab_iload_n hκ dX4_renew_6 rfl ?_
  refine ab_putf hκ (sy_o4 hthis) kp_RX4_15 rfl dX4_renew_7 ?_
  refine ab_lts (fun σ2 => ?_)
  refine ab_aload_n hκ dX4_renew_10 rfl ?_
  refine ab_iload_n hκ dX4_renew_11 rfl ?_
  refine ab_putf hκ (sy_o4 hthis) kp_RX4_19 rfl dX4_renew_12 ?_
  refine ab_lts (fun σ3 => ?_)
  refine ab_aload_n hκ dX4_renew_15 rfl ?_
  refine ab_getf (v := .ref (this + 1)) hκ (sy_o4 hthis) kf_RX4_22 rfl dX4_renew_16 rfl ?_
  refine ab_iconst (v := 0) hκ dX4_renew_19 rfl ?_
  refine ab_cSv (vs := [.ref (this + 1), .int 0]) (st := []) hκ dX4_renew_20 kl_RX4_26 ki_J7_fill_53178 kv_J7_fill_53178 (mj7_fill_53178_ok (this + 1) 60 0 (sy_a4_3 hthis) σ3) rfl (by decide) (Nat.le_of_ble_eq_true rfl) rfl (fun _ σ4 => ?_)
  exact ab_vret hκ dX4_renew_23
-- BreathBand.sheet(III)I, depth 2
def m6_sheet (a1 : Int32) (a2 : Int32) (a3 : Int32) (σ : St) : Option (Int32 × St) := sy_bd (m6_within a1 0 3 σ) (fun r2 σ1 => if r2 = 0 then (some ((-2), σ1)) else (sy_bd (m6_within a2 0 2 σ1) (fun r4 σ3 => if r4 = 0 then (some ((-2), σ3)) else (if a3 ≤ 60 then (if 0 ≤ a3 then (sy_gd a1 4 (sy_bd (m4_renew (53 + 2 * sy_ix a1) a2 a3 σ3) (fun _ σ6 => some (a3, σ6)))) else (sy_bd (m6_found 5 σ3) (fun r8 σ7 => some (r8, σ7)))) else (some ((-2), σ3))))))
set_option maxRecDepth 100000 in
set_option maxHeartbeats 4000000 in
theorem m6_sheet_ok (a1 : Int32) (a2 : Int32) (a3 : Int32) (σ : St) : Cok sy_vi yX6_sheet cX6_sheet 4 (some .int) 2 [.ref 0, .int a1, .int a2, .int a3] σ (m6_sheet a1 a2 a3 σ) := by
  refine cok_of (own := RX6) (by decide) rfl (fun ad => Nat.le_of_ble_eq_true rfl) (fun κ hκ => ?_)
  show Ab sy_vi κ 0 [sy_vr 0, sy_vi a1, sy_vi a2, sy_vi a3] [] σ (m6_sheet a1 a2 a3 σ)
  unfold m6_sheet
  refine ab_iload_n hκ dX6_sheet_0 rfl ?_
  refine ab_iconst (v := 0) hκ dX6_sheet_1 rfl ?_
  refine ab_iconst (v := 3) hκ dX6_sheet_2 rfl ?_
  refine ab_cSi (vs := [.int a1, .int 0, .int 3]) (st := []) hκ dX6_sheet_3 kl_RX6_89 ki_X6_within kv_X6_within (m6_within_ok a1 0 3 σ) rfl (by decide) (Nat.le_of_ble_eq_true rfl) rfl (fun r2 σ1 => ?_)
  refine ab_if_eq (tgt := 24) hκ dX6_sheet_6 rfl ?_ ?_
  · refine ab_bipush (v := (-2)) hκ dX6_sheet_24 rfl ?_
    exact ab_iret hκ dX6_sheet_26
  · refine ab_iload_n hκ dX6_sheet_9 rfl ?_
    refine ab_iconst (v := 0) hκ dX6_sheet_10 rfl ?_
    refine ab_iconst (v := 2) hκ dX6_sheet_11 rfl ?_
    refine ab_cSi (vs := [.int a2, .int 0, .int 2]) (st := []) hκ dX6_sheet_12 kl_RX6_89 ki_X6_within kv_X6_within (m6_within_ok a2 0 2 σ1) rfl (by decide) (Nat.le_of_ble_eq_true rfl) rfl (fun r4 σ3 => ?_)
    refine ab_if_eq (tgt := 24) hκ dX6_sheet_15 rfl ?_ ?_
    · refine ab_bipush (v := (-2)) hκ dX6_sheet_24 rfl ?_
      exact ab_iret hκ dX6_sheet_26
    · refine ab_iload_n hκ dX6_sheet_18 rfl ?_
      refine ab_bipush (v := 60) hκ dX6_sheet_19 rfl ?_
      refine ab_icmp_le (tgt := 27) hκ dX6_sheet_21 rfl ?_ ?_
      · refine ab_iload_n hκ dX6_sheet_27 rfl ?_
        refine ab_if_ge (tgt := 37) hκ dX6_sheet_28 rfl ?_ ?_
        · refine ab_aload_n hκ dX6_sheet_37 rfl ?_
          refine ab_getf (v := .ref 52) hκ (sy_o6 rfl) kf_RX6_73 rfl dX6_sheet_38 rfl ?_
          refine ab_iload_n hκ dX6_sheet_41 rfl ?_
          refine ab_aald hκ rfl dX6_sheet_42 (fun h5 => ?_)
          refine ab_iload_n hκ dX6_sheet_43 rfl ?_
          refine ab_iload_n hκ dX6_sheet_44 rfl ?_
          refine ab_cVv (vs := [.int a2, .int a3]) (st := []) hκ dX6_sheet_45 kl_RX6_268 ki_X4_renew kv_X4_renew (sy_o4 (sy_sheet h5)) rfl rfl (m4_renew_ok (53 + 2 * sy_ix a1) a2 a3 (sy_sheet h5) σ3) rfl (by decide) (Nat.le_of_ble_eq_true rfl) rfl (fun _ σ6 => ?_)
          refine ab_iload_n hκ dX6_sheet_48 rfl ?_
          exact ab_iret hκ dX6_sheet_49
        · refine ab_aload_n hκ dX6_sheet_31 rfl ?_
          refine ab_iconst (v := 5) hκ dX6_sheet_32 rfl ?_
          refine ab_cVi (vs := [.int 5]) (st := []) hκ dX6_sheet_33 kl_RX6_148 ki_X6_found kv_X6_found (sy_o6 rfl) rfl rfl (m6_found_ok 5 σ3) rfl (by decide) (Nat.le_of_ble_eq_true rfl) rfl (fun r8 σ7 => ?_)
          exact ab_iret hκ dX6_sheet_36
      · refine ab_bipush (v := (-2)) hκ dX6_sheet_24 rfl ?_
        exact ab_iret hκ dX6_sheet_26
-- BreathBand.lose(I)I, depth 1
def m6_lose (a1 : Int32) (σ : St) : Option (Int32 × St) := sy_bd (m6_within a1 0 3 σ) (fun r2 σ1 => if r2 = 0 then (some ((-2), σ1)) else (sy_gd a1 4 (if (σ1 (53 + 2 * sy_ix a1) 0) = 0 then (sy_zg 1 (sy_lt (sy_sf σ1 (53 + 2 * sy_ix a1) 0 1) (fun σ4 => some ((σ4 (53 + 2 * sy_ix a1) 2), σ4)))) else (sy_bd (m6_found 1 σ1) (fun r6 σ5 => some (r6, σ5))))))
set_option maxRecDepth 100000 in
set_option maxHeartbeats 4000000 in
theorem m6_lose_ok (a1 : Int32) (σ : St) : Cok sy_vi yX6_lose cX6_lose 3 (some .int) 1 [.ref 0, .int a1] σ (m6_lose a1 σ) := by
  refine cok_of (own := RX6) (by decide) rfl (fun ad => Nat.le_of_ble_eq_true rfl) (fun κ hκ => ?_)
  show Ab sy_vi κ 0 [sy_vr 0, sy_vi a1, none] [] σ (m6_lose a1 σ)
  unfold m6_lose
  refine ab_iload_n hκ dX6_lose_0 rfl ?_
  refine ab_iconst (v := 0) hκ dX6_lose_1 rfl ?_
  refine ab_iconst (v := 3) hκ dX6_lose_2 rfl ?_
  refine ab_cSi (vs := [.int a1, .int 0, .int 3]) (st := []) hκ dX6_lose_3 kl_RX6_89 ki_X6_within kv_X6_within (m6_within_ok a1 0 3 σ) rfl (by decide) (Nat.le_of_ble_eq_true rfl) rfl (fun r2 σ1 => ?_)
  refine ab_if_ne (tgt := 12) hκ dX6_lose_6 rfl ?_ ?_
  · refine ab_aload_n hκ dX6_lose_12 rfl ?_
    refine ab_getf (v := .ref 52) hκ (sy_o6 rfl) kf_RX6_73 rfl dX6_lose_13 rfl ?_
    refine ab_iload_n hκ dX6_lose_16 rfl ?_
    refine ab_aald hκ rfl dX6_lose_17 (fun h3 => ?_)
    refine ab_astore_n (lv' := [sy_vr 0, sy_vi a1, sy_vr (53 + 2 * sy_ix a1)]) hκ dX6_lose_18 rfl (by decide) rfl ?_
    refine ab_aload_n hκ dX6_lose_19 rfl ?_
    refine ab_getf (v := .int (σ1 (53 + 2 * sy_ix a1) 0)) hκ (sy_o4 (sy_sheet h3)) kf_RX6_145 rfl dX6_lose_20 rfl ?_
    refine ab_if_eq (tgt := 32) hκ dX6_lose_23 rfl ?_ ?_
    · refine ab_aload_n hκ dX6_lose_32 rfl ?_
      refine ab_iconst (v := 1) hκ dX6_lose_33 rfl ?_
      refine ab_putz hκ (sy_o4 (sy_sheet h3)) kp_RX6_145 rfl dX6_lose_34 ?_
      refine ab_lts (fun σ4 => ?_)
      refine ab_aload_n hκ dX6_lose_37 rfl ?_
      refine ab_getf (v := .int (σ4 (53 + 2 * sy_ix a1) 2)) hκ (sy_o4 (sy_sheet h3)) kf_RX6_152 rfl dX6_lose_38 rfl ?_
      exact ab_iret hκ dX6_lose_41
    · refine ab_aload_n hκ dX6_lose_26 rfl ?_
      refine ab_iconst (v := 1) hκ dX6_lose_27 rfl ?_
      refine ab_cVi (vs := [.int 1]) (st := []) hκ dX6_lose_28 kl_RX6_148 ki_X6_found kv_X6_found (sy_o6 rfl) rfl rfl (m6_found_ok 1 σ1) rfl (by decide) (Nat.le_of_ble_eq_true rfl) rfl (fun r6 σ5 => ?_)
      exact ab_iret hκ dX6_lose_31
  · refine ab_bipush (v := (-2)) hκ dX6_lose_9 rfl ?_
    exact ab_iret hκ dX6_lose_11
-- BreathBand$Sheet.findingAt(II)I, depth 0
def m4_findingAt (this : Nat) (a1 : Int32) (a2 : Int32) (σ : St) : Option (Int32 × St) := if (σ this 0) = 0 then (if a1 = (σ this 1) then (if a2 < 0 then (some (2, σ)) else (if a2 < (σ this 2) then (some (0, σ)) else (some (2, σ)))) else (some (3, σ))) else (some (1, σ))
set_option maxRecDepth 100000 in
set_option maxHeartbeats 4000000 in
theorem m4_findingAt_ok (this : Nat) (a1 : Int32) (a2 : Int32) (hthis : sy_is4 this) (σ : St) : Cok sy_vi yX4_findingAt cX4_findingAt 3 (some .int) 0 [.ref this, .int a1, .int a2] σ (m4_findingAt this a1 a2 σ) := by
  refine cok_of (own := RX4) (by decide) rfl (fun ad => Nat.le_of_ble_eq_true rfl) (fun κ hκ => ?_)
  show Ab sy_vi κ 0 [sy_vr this, sy_vi a1, sy_vi a2] [] σ (m4_findingAt this a1 a2 σ)
  unfold m4_findingAt
  refine ab_aload_n hκ dX4_findingAt_0 rfl ?_
  refine ab_getf (v := .int (σ this 0)) hκ (sy_o4 hthis) kf_RX4_9 rfl dX4_findingAt_1 rfl ?_
  refine ab_if_eq (tgt := 9) hκ dX4_findingAt_4 rfl ?_ ?_
  · refine ab_iload_n hκ dX4_findingAt_9 rfl ?_
    refine ab_aload_n hκ dX4_findingAt_10 rfl ?_
    refine ab_getf (v := .int (σ this 1)) hκ (sy_o4 hthis) kf_RX4_15 rfl dX4_findingAt_11 rfl ?_
    refine ab_icmp_eq (tgt := 19) hκ dX4_findingAt_14 rfl ?_ ?_
    · refine ab_iload_n hκ dX4_findingAt_19 rfl ?_
      refine ab_if_lt (tgt := 31) hκ dX4_findingAt_20 rfl ?_ ?_
      · refine ab_iconst (v := 2) hκ dX4_findingAt_31 rfl ?_
        refine ab_goto (tgt := 36) hκ dX4_findingAt_32 rfl ?_
        exact ab_iret hκ dX4_findingAt_36
      · refine ab_iload_n hκ dX4_findingAt_23 rfl ?_
        refine ab_aload_n hκ dX4_findingAt_24 rfl ?_
        refine ab_getf (v := .int (σ this 2)) hκ (sy_o4 hthis) kf_RX4_19 rfl dX4_findingAt_25 rfl ?_
        refine ab_icmp_lt (tgt := 35) hκ dX4_findingAt_28 rfl ?_ ?_
        · refine ab_iconst (v := 0) hκ dX4_findingAt_35 rfl ?_
          exact ab_iret hκ dX4_findingAt_36
        · refine ab_iconst (v := 2) hκ dX4_findingAt_31 rfl ?_
          refine ab_goto (tgt := 36) hκ dX4_findingAt_32 rfl ?_
          exact ab_iret hκ dX4_findingAt_36
    · refine ab_iconst (v := 3) hκ dX4_findingAt_17 rfl ?_
      exact ab_iret hκ dX4_findingAt_18
  · refine ab_iconst (v := 1) hκ dX4_findingAt_7 rfl ?_
    exact ab_iret hκ dX4_findingAt_8
-- BreathBand$Sheet.put(II)V, depth 0
def m4_put (this : Nat) (a1 : Int32) (a2 : Int32) (σ : St) : Option (Unit × St) := if (σ this 1) = 0 then (sy_gd a1 60 (sy_lt (sy_sf σ (this + 1) (sy_ix a1) ((Int32.toInt8 a2).toInt32)) (fun σ3 => some ((), σ3)))) else (if (σ this 1) = 1 then (sy_gd a1 60 (sy_lt (sy_sf σ (this + 1) (sy_ix a1) ((Int32.toInt16 a2).toInt32)) (fun σ2 => some ((), σ2)))) else (sy_gd a1 60 (sy_lt (sy_sf σ (this + 1) (sy_ix a1) a2) (fun σ1 => some ((), σ1)))))
set_option maxRecDepth 100000 in
set_option maxHeartbeats 4000000 in
theorem m4_put_ok (this : Nat) (a1 : Int32) (a2 : Int32) (hthis : sy_is4 this) (σ : St) : Cok sy_cu yX4_put cX4_put 3 none 0 [.ref this, .int a1, .int a2] σ (m4_put this a1 a2 σ) := by
  refine cok_of (own := RX4) (by decide) rfl (fun ad => Nat.le_of_ble_eq_true rfl) (fun κ hκ => ?_)
  show Ab sy_cu κ 0 [sy_vr this, sy_vi a1, sy_vi a2] [] σ (m4_put this a1 a2 σ)
  unfold m4_put
  refine ab_aload_n hκ dX4_put_0 rfl ?_
  refine ab_getf (v := .int (σ this 1)) hκ (sy_o4 hthis) kf_RX4_15 rfl dX4_put_1 rfl ?_
  refine ab_if_ne (tgt := 18) hκ dX4_put_4 rfl ?_ ?_
  · refine ab_aload_n hκ dX4_put_18 rfl ?_
    refine ab_getf (v := .int (σ this 1)) hκ (sy_o4 hthis) kf_RX4_15 rfl dX4_put_19 rfl ?_
    refine ab_iconst (v := 1) hκ dX4_put_22 rfl ?_
    refine ab_icmp_ne (tgt := 37) hκ dX4_put_23 rfl ?_ ?_
    · refine ab_aload_n hκ dX4_put_37 rfl ?_
      refine ab_getf (v := .ref (this + 1)) hκ (sy_o4 hthis) kf_RX4_22 rfl dX4_put_38 rfl ?_
      refine ab_iload_n hκ dX4_put_41 rfl ?_
      refine ab_iload_n hκ dX4_put_42 rfl ?_
      refine ab_iast hκ (sy_a4_3 hthis) dX4_put_43 ?_
      refine ab_lts (fun σ1 => ?_)
      exact ab_vret hκ dX4_put_44
    · refine ab_aload_n hκ dX4_put_26 rfl ?_
      refine ab_getf (v := .ref (this + 1)) hκ (sy_o4 hthis) kf_RX4_22 rfl dX4_put_27 rfl ?_
      refine ab_iload_n hκ dX4_put_30 rfl ?_
      refine ab_iload_n hκ dX4_put_31 rfl ?_
      refine ab_i2s hκ dX4_put_32 ?_
      refine ab_iast hκ (sy_a4_3 hthis) dX4_put_33 ?_
      refine ab_lts (fun σ2 => ?_)
      refine ab_goto (tgt := 44) hκ dX4_put_34 rfl ?_
      exact ab_vret hκ dX4_put_44
  · refine ab_aload_n hκ dX4_put_7 rfl ?_
    refine ab_getf (v := .ref (this + 1)) hκ (sy_o4 hthis) kf_RX4_22 rfl dX4_put_8 rfl ?_
    refine ab_iload_n hκ dX4_put_11 rfl ?_
    refine ab_iload_n hκ dX4_put_12 rfl ?_
    refine ab_i2b hκ dX4_put_13 ?_
    refine ab_iast hκ (sy_a4_3 hthis) dX4_put_14 ?_
    refine ab_lts (fun σ3 => ?_)
    refine ab_goto (tgt := 44) hκ dX4_put_15 rfl ?_
    exact ab_vret hκ dX4_put_44
-- BreathBand.lay(IIII)I, depth 1
def m6_lay (a1 : Int32) (a2 : Int32) (a3 : Int32) (a4 : Int32) (σ : St) : Option (Int32 × St) := sy_bd (m6_within a1 0 3 σ) (fun r2 σ1 => if r2 = 0 then (some ((-2), σ1)) else (sy_bd (m6_within a2 0 2 σ1) (fun r4 σ3 => if r4 = 0 then (some ((-2), σ3)) else (sy_gd a1 4 (sy_bd (m4_findingAt (53 + 2 * sy_ix a1) a2 a3 σ3) (fun r7 σ6 => if r7 = 0 then (sy_gd a1 4 (sy_bd (m4_put (53 + 2 * sy_ix a1) a3 a4 σ6) (fun _ σ9 => some (1, σ9)))) else (sy_bd (m6_found r7 σ6) (fun r11 σ10 => some (r11, σ10)))))))))
set_option maxRecDepth 100000 in
set_option maxHeartbeats 4000000 in
theorem m6_lay_ok (a1 : Int32) (a2 : Int32) (a3 : Int32) (a4 : Int32) (σ : St) : Cok sy_vi yX6_lay cX6_lay 6 (some .int) 1 [.ref 0, .int a1, .int a2, .int a3, .int a4] σ (m6_lay a1 a2 a3 a4 σ) := by
  refine cok_of (own := RX6) (by decide) rfl (fun ad => Nat.le_of_ble_eq_true rfl) (fun κ hκ => ?_)
  show Ab sy_vi κ 0 [sy_vr 0, sy_vi a1, sy_vi a2, sy_vi a3, sy_vi a4, none] [] σ (m6_lay a1 a2 a3 a4 σ)
  unfold m6_lay
  refine ab_iload_n hκ dX6_lay_0 rfl ?_
  refine ab_iconst (v := 0) hκ dX6_lay_1 rfl ?_
  refine ab_iconst (v := 3) hκ dX6_lay_2 rfl ?_
  refine ab_cSi (vs := [.int a1, .int 0, .int 3]) (st := []) hκ dX6_lay_3 kl_RX6_89 ki_X6_within kv_X6_within (m6_within_ok a1 0 3 σ) rfl (by decide) (Nat.le_of_ble_eq_true rfl) rfl (fun r2 σ1 => ?_)
  refine ab_if_eq (tgt := 18) hκ dX6_lay_6 rfl ?_ ?_
  · refine ab_bipush (v := (-2)) hκ dX6_lay_18 rfl ?_
    exact ab_iret hκ dX6_lay_20
  · refine ab_iload_n hκ dX6_lay_9 rfl ?_
    refine ab_iconst (v := 0) hκ dX6_lay_10 rfl ?_
    refine ab_iconst (v := 2) hκ dX6_lay_11 rfl ?_
    refine ab_cSi (vs := [.int a2, .int 0, .int 2]) (st := []) hκ dX6_lay_12 kl_RX6_89 ki_X6_within kv_X6_within (m6_within_ok a2 0 2 σ1) rfl (by decide) (Nat.le_of_ble_eq_true rfl) rfl (fun r4 σ3 => ?_)
    refine ab_if_ne (tgt := 21) hκ dX6_lay_15 rfl ?_ ?_
    · refine ab_aload_n hκ dX6_lay_21 rfl ?_
      refine ab_getf (v := .ref 52) hκ (sy_o6 rfl) kf_RX6_73 rfl dX6_lay_22 rfl ?_
      refine ab_iload_n hκ dX6_lay_25 rfl ?_
      refine ab_aald hκ rfl dX6_lay_26 (fun h5 => ?_)
      refine ab_iload_n hκ dX6_lay_27 rfl ?_
      refine ab_iload_n hκ dX6_lay_28 rfl ?_
      refine ab_cVi (vs := [.int a2, .int a3]) (st := []) hκ dX6_lay_29 kl_RX6_271 ki_X4_findingAt kv_X4_findingAt (sy_o4 (sy_sheet h5)) rfl rfl (m4_findingAt_ok (53 + 2 * sy_ix a1) a2 a3 (sy_sheet h5) σ3) rfl (by decide) (Nat.le_of_ble_eq_true rfl) rfl (fun r7 σ6 => ?_)
      refine ab_istore (lv' := [sy_vr 0, sy_vi a1, sy_vi a2, sy_vi a3, sy_vi a4, sy_vi r7]) hκ dX6_lay_32 (by decide) rfl ?_
      refine ab_iload hκ dX6_lay_34 rfl ?_
      refine ab_if_eq (tgt := 46) hκ dX6_lay_36 rfl ?_ ?_
      · refine ab_aload_n hκ dX6_lay_46 rfl ?_
        refine ab_getf (v := .ref 52) hκ (sy_o6 rfl) kf_RX6_73 rfl dX6_lay_47 rfl ?_
        refine ab_iload_n hκ dX6_lay_50 rfl ?_
        refine ab_aald hκ rfl dX6_lay_51 (fun h8 => ?_)
        refine ab_iload_n hκ dX6_lay_52 rfl ?_
        refine ab_iload hκ dX6_lay_53 rfl ?_
        refine ab_cVv (vs := [.int a3, .int a4]) (st := []) hκ dX6_lay_55 kl_RX6_275 ki_X4_put kv_X4_put (sy_o4 (sy_sheet h8)) rfl rfl (m4_put_ok (53 + 2 * sy_ix a1) a3 a4 (sy_sheet h8) σ6) rfl (by decide) (Nat.le_of_ble_eq_true rfl) rfl (fun _ σ9 => ?_)
        refine ab_iconst (v := 1) hκ dX6_lay_58 rfl ?_
        exact ab_iret hκ dX6_lay_59
      · refine ab_aload_n hκ dX6_lay_39 rfl ?_
        refine ab_iload hκ dX6_lay_40 rfl ?_
        refine ab_cVi (vs := [.int r7]) (st := []) hκ dX6_lay_42 kl_RX6_148 ki_X6_found kv_X6_found (sy_o6 rfl) rfl rfl (m6_found_ok r7 σ6) rfl (by decide) (Nat.le_of_ble_eq_true rfl) rfl (fun r11 σ10 => ?_)
        exact ab_iret hκ dX6_lay_45
    · refine ab_bipush (v := (-2)) hκ dX6_lay_18 rfl ?_
      exact ab_iret hκ dX6_lay_20
-- BreathBand.get(III)I, depth 1
def m6_get (a1 : Int32) (a2 : Int32) (a3 : Int32) (σ : St) : Option (Int32 × St) := sy_bd (m6_within a1 0 3 σ) (fun r2 σ1 => if r2 = 0 then (some ((-2147483648), σ1)) else (sy_bd (m6_within a2 0 2 σ1) (fun r4 σ3 => if r4 = 0 then (some ((-2147483648), σ3)) else (sy_gd a1 4 (sy_bd (m4_findingAt (53 + 2 * sy_ix a1) a2 a3 σ3) (fun r7 σ6 => if r7 = 0 then (sy_gd a1 4 (sy_gd a3 60 (some ((σ6 ((53 + 2 * sy_ix a1) + 1) (sy_ix a3)), σ6)))) else (sy_lt (sy_sf σ6 0 16 r7) (fun σ9 => some ((-2147483648), σ9)))))))))
set_option maxRecDepth 100000 in
set_option maxHeartbeats 4000000 in
theorem m6_get_ok (a1 : Int32) (a2 : Int32) (a3 : Int32) (σ : St) : Cok sy_vi yX6_get cX6_get 5 (some .int) 1 [.ref 0, .int a1, .int a2, .int a3] σ (m6_get a1 a2 a3 σ) := by
  refine cok_of (own := RX6) (by decide) rfl (fun ad => Nat.le_of_ble_eq_true rfl) (fun κ hκ => ?_)
  show Ab sy_vi κ 0 [sy_vr 0, sy_vi a1, sy_vi a2, sy_vi a3, none] [] σ (m6_get a1 a2 a3 σ)
  unfold m6_get
  refine ab_iload_n hκ dX6_get_0 rfl ?_
  refine ab_iconst (v := 0) hκ dX6_get_1 rfl ?_
  refine ab_iconst (v := 3) hκ dX6_get_2 rfl ?_
  refine ab_cSi (vs := [.int a1, .int 0, .int 3]) (st := []) hκ dX6_get_3 kl_RX6_89 ki_X6_within kv_X6_within (m6_within_ok a1 0 3 σ) rfl (by decide) (Nat.le_of_ble_eq_true rfl) rfl (fun r2 σ1 => ?_)
  refine ab_if_eq (tgt := 18) hκ dX6_get_6 rfl ?_ ?_
  · refine ab_ldcw hκ dX6_get_18 kn_RX6_278 ?_
    exact ab_iret hκ dX6_get_21
  · refine ab_iload_n hκ dX6_get_9 rfl ?_
    refine ab_iconst (v := 0) hκ dX6_get_10 rfl ?_
    refine ab_iconst (v := 2) hκ dX6_get_11 rfl ?_
    refine ab_cSi (vs := [.int a2, .int 0, .int 2]) (st := []) hκ dX6_get_12 kl_RX6_89 ki_X6_within kv_X6_within (m6_within_ok a2 0 2 σ1) rfl (by decide) (Nat.le_of_ble_eq_true rfl) rfl (fun r4 σ3 => ?_)
    refine ab_if_ne (tgt := 22) hκ dX6_get_15 rfl ?_ ?_
    · refine ab_aload_n hκ dX6_get_22 rfl ?_
      refine ab_getf (v := .ref 52) hκ (sy_o6 rfl) kf_RX6_73 rfl dX6_get_23 rfl ?_
      refine ab_iload_n hκ dX6_get_26 rfl ?_
      refine ab_aald hκ rfl dX6_get_27 (fun h5 => ?_)
      refine ab_iload_n hκ dX6_get_28 rfl ?_
      refine ab_iload_n hκ dX6_get_29 rfl ?_
      refine ab_cVi (vs := [.int a2, .int a3]) (st := []) hκ dX6_get_30 kl_RX6_271 ki_X4_findingAt kv_X4_findingAt (sy_o4 (sy_sheet h5)) rfl rfl (m4_findingAt_ok (53 + 2 * sy_ix a1) a2 a3 (sy_sheet h5) σ3) rfl (by decide) (Nat.le_of_ble_eq_true rfl) rfl (fun r7 σ6 => ?_)
      refine ab_istore (lv' := [sy_vr 0, sy_vi a1, sy_vi a2, sy_vi a3, sy_vi r7]) hκ dX6_get_33 (by decide) rfl ?_
      refine ab_iload hκ dX6_get_35 rfl ?_
      refine ab_if_eq (tgt := 50) hκ dX6_get_37 rfl ?_ ?_
      · refine ab_aload_n hκ dX6_get_50 rfl ?_
        refine ab_getf (v := .ref 52) hκ (sy_o6 rfl) kf_RX6_73 rfl dX6_get_51 rfl ?_
        refine ab_iload_n hκ dX6_get_54 rfl ?_
        refine ab_aald hκ rfl dX6_get_55 (fun h8 => ?_)
        refine ab_getf (v := .ref ((53 + 2 * sy_ix a1) + 1)) hκ (sy_o4 (sy_sheet h8)) kf_RX6_153 rfl dX6_get_56 rfl ?_
        refine ab_iload_n hκ dX6_get_59 rfl ?_
        refine ab_iald hκ (sy_a4_3 (sy_sheet h8)) dX6_get_60 ?_
        exact ab_iret hκ dX6_get_61
      · refine ab_aload_n hκ dX6_get_40 rfl ?_
        refine ab_iload hκ dX6_get_41 rfl ?_
        refine ab_putf hκ (sy_o6 rfl) kp_RX6_84 rfl dX6_get_43 ?_
        refine ab_lts (fun σ9 => ?_)
        refine ab_ldcw hκ dX6_get_46 kn_RX6_278 ?_
        exact ab_iret hκ dX6_get_49
    · refine ab_ldcw hκ dX6_get_18 kn_RX6_278 ?_
      exact ab_iret hκ dX6_get_21
-- BreathBand$Sheet.holds(II)Z, depth 0
def m4_holds (this : Nat) (a1 : Int32) (a2 : Int32) (σ : St) : Option (Int32 × St) := if a1 < 0 then (sy_zg 0 (some (0, σ))) else (if a2 < 0 then (sy_zg 0 (some (0, σ))) else (if ((σ this 2) - a2) < a1 then (sy_zg 0 (some (0, σ))) else (sy_zg 1 (some (1, σ)))))
set_option maxRecDepth 100000 in
set_option maxHeartbeats 4000000 in
theorem m4_holds_ok (this : Nat) (a1 : Int32) (a2 : Int32) (hthis : sy_is4 this) (σ : St) : Cok sy_vi yX4_holds cX4_holds 3 (some .boolean) 0 [.ref this, .int a1, .int a2] σ (m4_holds this a1 a2 σ) := by
  refine cok_of (own := RX4) (by decide) rfl (fun ad => Nat.le_of_ble_eq_true rfl) (fun κ hκ => ?_)
  show Ab sy_vi κ 0 [sy_vr this, sy_vi a1, sy_vi a2] [] σ (m4_holds this a1 a2 σ)
  unfold m4_holds
  refine ab_iload_n hκ dX4_holds_0 rfl ?_
  refine ab_if_lt (tgt := 22) hκ dX4_holds_1 rfl ?_ ?_
  · refine ab_iconst (v := 0) hκ dX4_holds_22 rfl ?_
    exact ab_zret hκ dX4_holds_23
  · refine ab_iload_n hκ dX4_holds_4 rfl ?_
    refine ab_if_lt (tgt := 22) hκ dX4_holds_5 rfl ?_ ?_
    · refine ab_iconst (v := 0) hκ dX4_holds_22 rfl ?_
      exact ab_zret hκ dX4_holds_23
    · refine ab_iload_n hκ dX4_holds_8 rfl ?_
      refine ab_aload_n hκ dX4_holds_9 rfl ?_
      refine ab_getf (v := .int (σ this 2)) hκ (sy_o4 hthis) kf_RX4_19 rfl dX4_holds_10 rfl ?_
      refine ab_iload_n hκ dX4_holds_13 rfl ?_
      refine ab_isub hκ dX4_holds_14 ?_
      refine ab_icmp_gt (tgt := 22) hκ dX4_holds_15 rfl ?_ ?_
      · refine ab_iconst (v := 0) hκ dX4_holds_22 rfl ?_
        exact ab_zret hκ dX4_holds_23
      · refine ab_iconst (v := 1) hκ dX4_holds_18 rfl ?_
        refine ab_goto (tgt := 23) hκ dX4_holds_19 rfl ?_
        exact ab_zret hκ dX4_holds_23
-- BreathBand.copy(IIIII)I, depth 1
def m6_copy (a1 : Int32) (a2 : Int32) (a3 : Int32) (a4 : Int32) (a5 : Int32) (σ : St) : Option (Int32 × St) := sy_bd (m6_within a1 0 3 σ) (fun r2 σ1 => if r2 = 0 then (some ((-2), σ1)) else (sy_bd (m6_within a3 0 3 σ1) (fun r4 σ3 => if r4 = 0 then (some ((-2), σ3)) else (sy_gd a1 4 (sy_gd a3 4 (if (σ3 (53 + 2 * sy_ix a1) 0) = 0 then (if (σ3 (53 + 2 * sy_ix a3) 0) = 0 then (if (σ3 (53 + 2 * sy_ix a1) 1) = (σ3 (53 + 2 * sy_ix a3) 1) then (sy_bd (m4_holds (53 + 2 * sy_ix a1) a2 a5 σ3) (fun r10 σ9 => if r10 = 0 then (sy_bd (m6_found 2 σ9) (fun r12 σ11 => some (r12, σ11))) else (sy_bd (m4_holds (53 + 2 * sy_ix a3) a4 a5 σ9) (fun r14 σ13 => if r14 = 0 then (sy_bd (m6_found 2 σ13) (fun r17 σ16 => some (r17, σ16))) else (sy_cg a2 a4 a5 60 60 (sy_lt (sy_cp σ13 ((53 + 2 * sy_ix a1) + 1) a2 ((53 + 2 * sy_ix a3) + 1) a4 a5) (fun σ15 => some (1, σ15)))))))) else (sy_bd (m6_found 4 σ3) (fun r19 σ18 => some (r19, σ18)))) else (sy_bd (m6_found 1 σ3) (fun r21 σ20 => some (r21, σ20)))) else (sy_bd (m6_found 1 σ3) (fun r8 σ7 => some (r8, σ7)))))))))
set_option maxRecDepth 100000 in
set_option maxHeartbeats 4000000 in
theorem m6_copy_ok (a1 : Int32) (a2 : Int32) (a3 : Int32) (a4 : Int32) (a5 : Int32) (σ : St) : Cok sy_vi yX6_copy cX6_copy 8 (some .int) 1 [.ref 0, .int a1, .int a2, .int a3, .int a4, .int a5] σ (m6_copy a1 a2 a3 a4 a5 σ) := by
  refine cok_of (own := RX6) (by decide) rfl (fun ad => Nat.le_of_ble_eq_true rfl) (fun κ hκ => ?_)
  show Ab sy_vi κ 0 [sy_vr 0, sy_vi a1, sy_vi a2, sy_vi a3, sy_vi a4, sy_vi a5, none, none] [] σ (m6_copy a1 a2 a3 a4 a5 σ)
  unfold m6_copy
  refine ab_iload_n hκ dX6_copy_0 rfl ?_
  refine ab_iconst (v := 0) hκ dX6_copy_1 rfl ?_
  refine ab_iconst (v := 3) hκ dX6_copy_2 rfl ?_
  refine ab_cSi (vs := [.int a1, .int 0, .int 3]) (st := []) hκ dX6_copy_3 kl_RX6_89 ki_X6_within kv_X6_within (m6_within_ok a1 0 3 σ) rfl (by decide) (Nat.le_of_ble_eq_true rfl) rfl (fun r2 σ1 => ?_)
  refine ab_if_eq (tgt := 18) hκ dX6_copy_6 rfl ?_ ?_
  · refine ab_bipush (v := (-2)) hκ dX6_copy_18 rfl ?_
    exact ab_iret hκ dX6_copy_20
  · refine ab_iload_n hκ dX6_copy_9 rfl ?_
    refine ab_iconst (v := 0) hκ dX6_copy_10 rfl ?_
    refine ab_iconst (v := 3) hκ dX6_copy_11 rfl ?_
    refine ab_cSi (vs := [.int a3, .int 0, .int 3]) (st := []) hκ dX6_copy_12 kl_RX6_89 ki_X6_within kv_X6_within (m6_within_ok a3 0 3 σ1) rfl (by decide) (Nat.le_of_ble_eq_true rfl) rfl (fun r4 σ3 => ?_)
    refine ab_if_ne (tgt := 21) hκ dX6_copy_15 rfl ?_ ?_
    · refine ab_aload_n hκ dX6_copy_21 rfl ?_
      refine ab_getf (v := .ref 52) hκ (sy_o6 rfl) kf_RX6_73 rfl dX6_copy_22 rfl ?_
      refine ab_iload_n hκ dX6_copy_25 rfl ?_
      refine ab_aald hκ rfl dX6_copy_26 (fun h5 => ?_)
      refine ab_astore (lv' := [sy_vr 0, sy_vi a1, sy_vi a2, sy_vi a3, sy_vi a4, sy_vi a5, sy_vr (53 + 2 * sy_ix a1), none]) hκ dX6_copy_27 (by decide) rfl ?_
      refine ab_aload_n hκ dX6_copy_29 rfl ?_
      refine ab_getf (v := .ref 52) hκ (sy_o6 rfl) kf_RX6_73 rfl dX6_copy_30 rfl ?_
      refine ab_iload_n hκ dX6_copy_33 rfl ?_
      refine ab_aald hκ rfl dX6_copy_34 (fun h6 => ?_)
      refine ab_astore (lv' := [sy_vr 0, sy_vi a1, sy_vi a2, sy_vi a3, sy_vi a4, sy_vi a5, sy_vr (53 + 2 * sy_ix a1), sy_vr (53 + 2 * sy_ix a3)]) hκ dX6_copy_35 (by decide) rfl ?_
      refine ab_aload hκ dX6_copy_37 rfl ?_
      refine ab_getf (v := .int (σ3 (53 + 2 * sy_ix a1) 0)) hκ (sy_o4 (sy_sheet h5)) kf_RX6_145 rfl dX6_copy_39 rfl ?_
      refine ab_if_ne (tgt := 53) hκ dX6_copy_42 rfl ?_ ?_
      · refine ab_aload_n hκ dX6_copy_53 rfl ?_
        refine ab_iconst (v := 1) hκ dX6_copy_54 rfl ?_
        refine ab_cVi (vs := [.int 1]) (st := []) hκ dX6_copy_55 kl_RX6_148 ki_X6_found kv_X6_found (sy_o6 rfl) rfl rfl (m6_found_ok 1 σ3) rfl (by decide) (Nat.le_of_ble_eq_true rfl) rfl (fun r8 σ7 => ?_)
        exact ab_iret hκ dX6_copy_58
      · refine ab_aload hκ dX6_copy_45 rfl ?_
        refine ab_getf (v := .int (σ3 (53 + 2 * sy_ix a3) 0)) hκ (sy_o4 (sy_sheet h6)) kf_RX6_145 rfl dX6_copy_47 rfl ?_
        refine ab_if_eq (tgt := 59) hκ dX6_copy_50 rfl ?_ ?_
        · refine ab_aload hκ dX6_copy_59 rfl ?_
          refine ab_getf (v := .int (σ3 (53 + 2 * sy_ix a1) 1)) hκ (sy_o4 (sy_sheet h5)) kf_RX6_279 rfl dX6_copy_61 rfl ?_
          refine ab_aload hκ dX6_copy_64 rfl ?_
          refine ab_getf (v := .int (σ3 (53 + 2 * sy_ix a3) 1)) hκ (sy_o4 (sy_sheet h6)) kf_RX6_279 rfl dX6_copy_66 rfl ?_
          refine ab_icmp_eq (tgt := 78) hκ dX6_copy_69 rfl ?_ ?_
          · refine ab_aload hκ dX6_copy_78 rfl ?_
            refine ab_iload_n hκ dX6_copy_80 rfl ?_
            refine ab_iload hκ dX6_copy_81 rfl ?_
            refine ab_cVi (vs := [.int a2, .int a5]) (st := []) hκ dX6_copy_83 kl_RX6_282 ki_X4_holds kv_X4_holds (sy_o4 (sy_sheet h5)) rfl rfl (m4_holds_ok (53 + 2 * sy_ix a1) a2 a5 (sy_sheet h5) σ3) rfl (by decide) (Nat.le_of_ble_eq_true rfl) rfl (fun r10 σ9 => ?_)
            refine ab_if_eq (tgt := 101) hκ dX6_copy_86 rfl ?_ ?_
            · refine ab_aload_n hκ dX6_copy_101 rfl ?_
              refine ab_iconst (v := 2) hκ dX6_copy_102 rfl ?_
              refine ab_cVi (vs := [.int 2]) (st := []) hκ dX6_copy_103 kl_RX6_148 ki_X6_found kv_X6_found (sy_o6 rfl) rfl rfl (m6_found_ok 2 σ9) rfl (by decide) (Nat.le_of_ble_eq_true rfl) rfl (fun r12 σ11 => ?_)
              exact ab_iret hκ dX6_copy_106
            · refine ab_aload hκ dX6_copy_89 rfl ?_
              refine ab_iload hκ dX6_copy_91 rfl ?_
              refine ab_iload hκ dX6_copy_93 rfl ?_
              refine ab_cVi (vs := [.int a4, .int a5]) (st := []) hκ dX6_copy_95 kl_RX6_282 ki_X4_holds kv_X4_holds (sy_o4 (sy_sheet h6)) rfl rfl (m4_holds_ok (53 + 2 * sy_ix a3) a4 a5 (sy_sheet h6) σ9) rfl (by decide) (Nat.le_of_ble_eq_true rfl) rfl (fun r14 σ13 => ?_)
              refine ab_if_ne (tgt := 107) hκ dX6_copy_98 rfl ?_ ?_
              · refine ab_aload hκ dX6_copy_107 rfl ?_
                refine ab_getf (v := .ref ((53 + 2 * sy_ix a1) + 1)) hκ (sy_o4 (sy_sheet h5)) kf_RX6_153 rfl dX6_copy_109 rfl ?_
                refine ab_iload_n hκ dX6_copy_112 rfl ?_
                refine ab_aload hκ dX6_copy_113 rfl ?_
                refine ab_getf (v := .ref ((53 + 2 * sy_ix a3) + 1)) hκ (sy_o4 (sy_sheet h6)) kf_RX6_153 rfl dX6_copy_115 rfl ?_
                refine ab_iload hκ dX6_copy_118 rfl ?_
                refine ab_iload hκ dX6_copy_120 rfl ?_
                refine ab_copy hκ (sy_a4_3 (sy_sheet h5)) (sy_a4_3 (sy_sheet h6)) dX6_copy_122 kl_RX6_285 (by decide) (Nat.le_of_ble_eq_true rfl) ?_
                refine ab_lts (fun σ15 => ?_)
                refine ab_iconst (v := 1) hκ dX6_copy_125 rfl ?_
                exact ab_iret hκ dX6_copy_126
              · refine ab_aload_n hκ dX6_copy_101 rfl ?_
                refine ab_iconst (v := 2) hκ dX6_copy_102 rfl ?_
                refine ab_cVi (vs := [.int 2]) (st := []) hκ dX6_copy_103 kl_RX6_148 ki_X6_found kv_X6_found (sy_o6 rfl) rfl rfl (m6_found_ok 2 σ13) rfl (by decide) (Nat.le_of_ble_eq_true rfl) rfl (fun r17 σ16 => ?_)
                exact ab_iret hκ dX6_copy_106
          · refine ab_aload_n hκ dX6_copy_72 rfl ?_
            refine ab_iconst (v := 4) hκ dX6_copy_73 rfl ?_
            refine ab_cVi (vs := [.int 4]) (st := []) hκ dX6_copy_74 kl_RX6_148 ki_X6_found kv_X6_found (sy_o6 rfl) rfl rfl (m6_found_ok 4 σ3) rfl (by decide) (Nat.le_of_ble_eq_true rfl) rfl (fun r19 σ18 => ?_)
            exact ab_iret hκ dX6_copy_77
        · refine ab_aload_n hκ dX6_copy_53 rfl ?_
          refine ab_iconst (v := 1) hκ dX6_copy_54 rfl ?_
          refine ab_cVi (vs := [.int 1]) (st := []) hκ dX6_copy_55 kl_RX6_148 ki_X6_found kv_X6_found (sy_o6 rfl) rfl rfl (m6_found_ok 1 σ3) rfl (by decide) (Nat.le_of_ble_eq_true rfl) rfl (fun r21 σ20 => ?_)
          exact ab_iret hκ dX6_copy_58
    · refine ab_bipush (v := (-2)) hκ dX6_copy_18 rfl ?_
      exact ab_iret hκ dX6_copy_20
-- BreathBand.write(I)I, depth 4
def m6_write_L51b (c8 : Nat) (c10 : Nat) (K51 : Int32 → Int32 → St → Option (Int32 × St)) (E51_77 : Int32 → St → Option (Int32 × St)) (x12 : Int32) (x13 : Int32) (σ : St) : Option (Int32 × St) := if x12 ≤ x13 then (E51_77 x12 σ) else (sy_gd x13 24 (sy_bd (m4_put c8 x13 (σ (c10 + 2) (sy_ix x13)) σ) (fun _ σ14 => K51 x12 (x13 + 1) σ14)))
def m6_write_L51 (c8 : Nat) (c10 : Nat) (E51_77 : Int32 → St → Option (Int32 × St)) : Nat → Int32 → Int32 → St → Option (Int32 × St)
  | 0 => fun _ _ _ => none
  | n + 1 => m6_write_L51b c8 c10 (m6_write_L51 c8 c10 E51_77 n) E51_77
set_option maxRecDepth 100000 in
set_option maxHeartbeats 4000000 in
theorem m6_write_L51b_ok {κ : Kx} (hκ : Gd κ cX6_write 6 RX6 (some .int) 4) (c8 : Nat) (c10 : Nat) (h9 : sy_is4 c8) (h11 : sy_is3 c10) {K51 : Int32 → Int32 → St → Option (Int32 × St)} (hK51 : ∀ (x12 : Int32) (x13 : Int32) (σ : St), Ab sy_vi κ 51 [none, none, sy_vr c8, sy_vr c10, sy_vi x12, sy_vi x13] [] σ (K51 x12 x13 σ)) {E51_77 : Int32 → St → Option (Int32 × St)} (hE51_77 : ∀ (y4 : Int32) (σ : St), Ab sy_vi κ 77 [none, none, none, none, sy_vi y4, none] [] σ (E51_77 y4 σ)) (x12 : Int32) (x13 : Int32) (σ : St) : Ab sy_vi κ 51 [none, none, sy_vr c8, sy_vr c10, sy_vi x12, sy_vi x13] [] σ (m6_write_L51b c8 c10 K51 E51_77 x12 x13 σ) := by
  unfold m6_write_L51b
  refine ab_iload hκ dX6_write_51 rfl ?_
  refine ab_iload hκ dX6_write_53 rfl ?_
  refine ab_icmp_ge (tgt := 77) hκ dX6_write_55 rfl ?_ ?_
  · refine ab_fg (lv' := [none, none, none, none, sy_vi x12, none]) [2, 3, 5] rfl ?_
    exact hE51_77 x12 σ
  · refine ab_aload_n hκ dX6_write_58 rfl ?_
    refine ab_iload hκ dX6_write_59 rfl ?_
    refine ab_aload_n hκ dX6_write_61 rfl ?_
    refine ab_getf (v := .ref (c10 + 2)) hκ (sy_o3 h11) kf_RX6_163 rfl dX6_write_62 rfl ?_
    refine ab_iload hκ dX6_write_65 rfl ?_
    refine ab_iald hκ (sy_a3_1 h11) dX6_write_67 ?_
    refine ab_cVv (vs := [.int x13, .int (σ (c10 + 2) (sy_ix x13))]) (st := []) hκ dX6_write_68 kl_RX6_275 ki_X4_put kv_X4_put (sy_o4 h9) rfl rfl (m4_put_ok c8 x13 (σ (c10 + 2) (sy_ix x13)) h9 σ) rfl (by decide) (Nat.le_of_ble_eq_true rfl) rfl (fun _ σ14 => ?_)
    refine ab_iinc (v := (x13 + 1)) (lv' := [none, none, sy_vr c8, sy_vr c10, sy_vi x12, sy_vi (x13 + 1)]) hκ dX6_write_71 rfl rfl (by decide) rfl ?_
    refine ab_goto (tgt := 51) hκ dX6_write_74 rfl ?_
    exact hK51 x12 (x13 + 1) σ14
theorem m6_write_L51_ok {κ : Kx} (hκ : Gd κ cX6_write 6 RX6 (some .int) 4) (c8 : Nat) (c10 : Nat) (h9 : sy_is4 c8) (h11 : sy_is3 c10) {E51_77 : Int32 → St → Option (Int32 × St)} (hE51_77 : ∀ (y4 : Int32) (σ : St), Ab sy_vi κ 77 [none, none, none, none, sy_vi y4, none] [] σ (E51_77 y4 σ)) : ∀ (n : Nat) (x12 : Int32) (x13 : Int32) (σ : St), Ab sy_vi κ 51 [none, none, sy_vr c8, sy_vr c10, sy_vi x12, sy_vi x13] [] σ (m6_write_L51 c8 c10 E51_77 n x12 x13 σ) := by
  intro n
  induction n with
  | zero => intros; exact ab_none
  | succ n ih => exact fun x12 x13 σ => m6_write_L51b_ok hκ c8 c10 h9 h11 ih hE51_77 x12 x13 σ
def m6_write (a1 : Int32) (σ : St) : Option (Int32 × St) := sy_bd (m6_within a1 0 3 σ) (fun r2 σ1 => if r2 = 0 then (some ((-2), σ1)) else (sy_gd a1 4 (if (σ1 (53 + 2 * sy_ix a1) 0) = 0 then (sy_bd (m6_runAsTold σ1) (fun r5 σ4 => if sy_is3 r5 then (sy_lt (sy_min (σ4 (53 + 2 * sy_ix a1) 2) 24) (fun v7 => m6_write_L51 (53 + 2 * sy_ix a1) r5 (fun y15 σ16 => some (y15, σ16)) sy_FU v7 0 σ4)) else none)) else (sy_bd (m6_found 1 σ1) (fun r18 σ17 => some (r18, σ17))))))
set_option maxRecDepth 100000 in
set_option maxHeartbeats 4000000 in
theorem m6_write_ok (a1 : Int32) (σ : St) : Cok sy_vi yX6_write cX6_write 6 (some .int) 4 [.ref 0, .int a1] σ (m6_write a1 σ) := by
  refine cok_of (own := RX6) (by decide) rfl (fun ad => Nat.le_of_ble_eq_true rfl) (fun κ hκ => ?_)
  show Ab sy_vi κ 0 [sy_vr 0, sy_vi a1, none, none, none, none] [] σ (m6_write a1 σ)
  unfold m6_write
  refine ab_iload_n hκ dX6_write_0 rfl ?_
  refine ab_iconst (v := 0) hκ dX6_write_1 rfl ?_
  refine ab_iconst (v := 3) hκ dX6_write_2 rfl ?_
  refine ab_cSi (vs := [.int a1, .int 0, .int 3]) (st := []) hκ dX6_write_3 kl_RX6_89 ki_X6_within kv_X6_within (m6_within_ok a1 0 3 σ) rfl (by decide) (Nat.le_of_ble_eq_true rfl) rfl (fun r2 σ1 => ?_)
  refine ab_if_ne (tgt := 12) hκ dX6_write_6 rfl ?_ ?_
  · refine ab_aload_n hκ dX6_write_12 rfl ?_
    refine ab_getf (v := .ref 52) hκ (sy_o6 rfl) kf_RX6_73 rfl dX6_write_13 rfl ?_
    refine ab_iload_n hκ dX6_write_16 rfl ?_
    refine ab_aald hκ rfl dX6_write_17 (fun h3 => ?_)
    refine ab_astore_n (lv' := [sy_vr 0, sy_vi a1, sy_vr (53 + 2 * sy_ix a1), none, none, none]) hκ dX6_write_18 rfl (by decide) rfl ?_
    refine ab_aload_n hκ dX6_write_19 rfl ?_
    refine ab_getf (v := .int (σ1 (53 + 2 * sy_ix a1) 0)) hκ (sy_o4 (sy_sheet h3)) kf_RX6_145 rfl dX6_write_20 rfl ?_
    refine ab_if_eq (tgt := 32) hκ dX6_write_23 rfl ?_ ?_
    · refine ab_aload_n hκ dX6_write_32 rfl ?_
      refine ab_cVr (vs := []) (st := []) hκ dX6_write_33 kl_RX6_156 ki_X6_runAsTold kv_X6_runAsTold (sy_o6 rfl) rfl rfl (m6_runAsTold_ok σ1) rfl (by decide) (Nat.le_of_ble_eq_true rfl) rfl (fun r5 σ4 => ?_)
      refine ab_if (fun h6 => ?_) (fun _ => ab_none)
      refine ab_astore_n (lv' := [sy_vr 0, sy_vi a1, sy_vr (53 + 2 * sy_ix a1), sy_vr r5, none, none]) hκ dX6_write_36 rfl (by decide) rfl ?_
      refine ab_aload_n hκ dX6_write_37 rfl ?_
      refine ab_getf (v := .int (σ4 (53 + 2 * sy_ix a1) 2)) hκ (sy_o4 (sy_sheet h3)) kf_RX6_152 rfl dX6_write_38 rfl ?_
      refine ab_bipush (v := 24) hκ dX6_write_41 rfl ?_
      refine ab_mmin hκ dX6_write_43 kl_RX6_291 (by decide) (Nat.le_of_ble_eq_true rfl) ?_
      refine ab_lti (fun v7 => ?_)
      refine ab_istore (lv' := [sy_vr 0, sy_vi a1, sy_vr (53 + 2 * sy_ix a1), sy_vr r5, sy_vi v7, none]) hκ dX6_write_46 (by decide) rfl ?_
      refine ab_iconst (v := 0) hκ dX6_write_48 rfl ?_
      refine ab_istore (lv' := [sy_vr 0, sy_vi a1, sy_vr (53 + 2 * sy_ix a1), sy_vr r5, sy_vi v7, sy_vi 0]) hκ dX6_write_49 (by decide) rfl ?_
      refine ab_fg (lv' := [none, none, sy_vr (53 + 2 * sy_ix a1), sy_vr r5, sy_vi v7, sy_vi 0]) [0, 1] rfl ?_
      refine m6_write_L51_ok hκ (53 + 2 * sy_ix a1) r5 (sy_sheet h3) h6 ?_ _ _ _ _
      · intro y15 σ16
        refine ab_iload hκ dX6_write_77 rfl ?_
        exact ab_iret hκ dX6_write_79
    · refine ab_aload_n hκ dX6_write_26 rfl ?_
      refine ab_iconst (v := 1) hκ dX6_write_27 rfl ?_
      refine ab_cVi (vs := [.int 1]) (st := []) hκ dX6_write_28 kl_RX6_148 ki_X6_found kv_X6_found (sy_o6 rfl) rfl rfl (m6_found_ok 1 σ1) rfl (by decide) (Nat.le_of_ble_eq_true rfl) rfl (fun r18 σ17 => ?_)
      exact ab_iret hκ dX6_write_31
  · refine ab_bipush (v := (-2)) hκ dX6_write_9 rfl ?_
    exact ab_iret hκ dX6_write_11
-- BreathBand.count(I)I, depth 4
def m6_count (a1 : Int32) (σ : St) : Option (Int32 × St) := sy_sw a1 [some ((σ 5 0), σ), some ((σ 5 5), σ), some ((σ 1 4), σ), some ((σ 3 4), σ), some ((σ 5 10), σ), some ((σ 5 9), σ), sy_bd (m6_runAsTold σ) (fun r2 σ1 => if sy_is3 r2 then (some ((σ1 r2 7), σ1)) else none), some ((σ 43 2), σ), some ((σ 0 16), σ)] (some ((-2), σ))
set_option maxRecDepth 100000 in
set_option maxHeartbeats 4000000 in
theorem m6_count_ok (a1 : Int32) (σ : St) : Cok sy_vi yX6_count cX6_count 2 (some .int) 4 [.ref 0, .int a1] σ (m6_count a1 σ) := by
  refine cok_of (own := RX6) (by decide) rfl (fun ad => Nat.le_of_ble_eq_true rfl) (fun κ hκ => ?_)
  show Ab sy_vi κ 0 [sy_vr 0, sy_vi a1] [] σ (m6_count a1 σ)
  unfold m6_count
  refine ab_iload_n hκ dX6_count_0 rfl ?_
  refine ab_tsw hκ dX6_count_1 rfl rfl (by decide) ?_ ⟨?_, ?_, ?_, ?_, ?_, ?_, ?_, ?_, ?_, trivial⟩
  · refine ab_bipush (v := (-2)) hκ dX6_count_121 rfl ?_
    exact ab_iret hκ dX6_count_123
  · refine ab_aload_n hκ dX6_count_52 rfl ?_
    refine ab_getf (v := .ref 5) hκ (sy_o6 rfl) kf_RX6_24 rfl dX6_count_53 rfl ?_
    refine ab_getf (v := .int (σ 5 0)) hκ (sy_o0 (Or.inl rfl)) kf_RX6_193 rfl dX6_count_56 rfl ?_
    exact ab_iret hκ dX6_count_59
  · refine ab_aload_n hκ dX6_count_60 rfl ?_
    refine ab_getf (v := .ref 5) hκ (sy_o6 rfl) kf_RX6_24 rfl dX6_count_61 rfl ?_
    refine ab_getf (v := .int (σ 5 5)) hκ (sy_o0 (Or.inl rfl)) kf_RX6_120 rfl dX6_count_64 rfl ?_
    exact ab_iret hκ dX6_count_67
  · refine ab_aload_n hκ dX6_count_68 rfl ?_
    refine ab_getf (v := .ref 1) hκ (sy_o6 rfl) kf_RX6_14 rfl dX6_count_69 rfl ?_
    refine ab_getf (v := .int (σ 1 4)) hκ (sy_o5 (Or.inl rfl)) kf_RX6_104 rfl dX6_count_72 rfl ?_
    exact ab_iret hκ dX6_count_75
  · refine ab_aload_n hκ dX6_count_76 rfl ?_
    refine ab_getf (v := .ref 3) hκ (sy_o6 rfl) kf_RX6_18 rfl dX6_count_77 rfl ?_
    refine ab_getf (v := .int (σ 3 4)) hκ (sy_o5 (Or.inr rfl)) kf_RX6_104 rfl dX6_count_80 rfl ?_
    exact ab_iret hκ dX6_count_83
  · refine ab_aload_n hκ dX6_count_84 rfl ?_
    refine ab_getf (v := .ref 5) hκ (sy_o6 rfl) kf_RX6_24 rfl dX6_count_85 rfl ?_
    refine ab_getf (v := .int (σ 5 10)) hκ (sy_o0 (Or.inl rfl)) kf_RX6_142 rfl dX6_count_88 rfl ?_
    exact ab_iret hκ dX6_count_91
  · refine ab_aload_n hκ dX6_count_92 rfl ?_
    refine ab_getf (v := .ref 5) hκ (sy_o6 rfl) kf_RX6_24 rfl dX6_count_93 rfl ?_
    refine ab_getf (v := .int (σ 5 9)) hκ (sy_o0 (Or.inl rfl)) kf_RX6_129 rfl dX6_count_96 rfl ?_
    exact ab_iret hκ dX6_count_99
  · refine ab_aload_n hκ dX6_count_100 rfl ?_
    refine ab_cVr (vs := []) (st := []) hκ dX6_count_101 kl_RX6_156 ki_X6_runAsTold kv_X6_runAsTold (sy_o6 rfl) rfl rfl (m6_runAsTold_ok σ) rfl (by decide) (Nat.le_of_ble_eq_true rfl) rfl (fun r2 σ1 => ?_)
    refine ab_if (fun h3 => ?_) (fun _ => ab_none)
    refine ab_getf (v := .int (σ1 r2 7)) hκ (sy_o3 h3) kf_RX6_184 rfl dX6_count_104 rfl ?_
    exact ab_iret hκ dX6_count_107
  · refine ab_aload_n hκ dX6_count_108 rfl ?_
    refine ab_getf (v := .ref 43) hκ (sy_o6 rfl) kf_RX6_44 rfl dX6_count_109 rfl ?_
    refine ab_getf (v := .int (σ 43 2)) hκ (sy_o2 rfl) kf_RX6_223 rfl dX6_count_112 rfl ?_
    exact ab_iret hκ dX6_count_115
  · refine ab_aload_n hκ dX6_count_116 rfl ?_
    refine ab_getf (v := .int (σ 0 16)) hκ (sy_o6 rfl) kf_RX6_84 rfl dX6_count_117 rfl ?_
    exact ab_iret hκ dX6_count_120
-- BreathBand.mix(JJ)J, depth 0
def m6_mix (a1 : Int64) (a2 : Int64) (σ : St) : Option (Int64 × St) := some (((31 * a1) + a2), σ)
set_option maxRecDepth 100000 in
set_option maxHeartbeats 4000000 in
theorem m6_mix_ok (a1 : Int64) (a2 : Int64) (σ : St) : Cok sy_vl yX6_mix cX6_mix 4 (some .long) 0 [.long a1, .long a2] σ (m6_mix a1 a2 σ) := by
  refine cok_of (own := RX6) (by decide) rfl (fun ad => Nat.le_of_ble_eq_true rfl) (fun κ hκ => ?_)
  show Ab sy_vl κ 0 [sy_vl a1, none, sy_vl a2, none] [] σ (m6_mix a1 a2 σ)
  unfold m6_mix
  refine ab_ldc2 hκ dX6_mix_0 kn_RX6_371 ?_
  refine ab_lload_n hκ dX6_mix_3 rfl ?_
  refine ab_lmul hκ dX6_mix_4 ?_
  refine ab_lload_n hκ dX6_mix_5 rfl ?_
  refine ab_ladd hκ dX6_mix_6 ?_
  exact ab_lret hκ dX6_mix_7
-- BreathBand.mixNotes(J)J, depth 5
def m6_mixNotes_L5b (K5 : Int64 → Int32 → St → Option (Int64 × St)) (E5_42 : Int64 → St → Option (Int64 × St)) (x1 : Int64) (x2 : Int32) (σ : St) : Option (Int64 × St) := if 16 ≤ x2 then (E5_42 x1 σ) else (sy_bd (m6_note x2 0 σ) (fun r4 σ3 => sy_bd (m6_mix x1 (Int32.toInt64 r4) σ3) (fun r6 σ5 => sy_bd (m6_note x2 1 σ5) (fun r8 σ7 => sy_bd (m6_mix r6 (Int32.toInt64 r8) σ7) (fun r10 σ9 => K5 r10 (x2 + 1) σ9)))))
def m6_mixNotes_L5 (E5_42 : Int64 → St → Option (Int64 × St)) : Nat → Int64 → Int32 → St → Option (Int64 × St)
  | 0 => fun _ _ _ => none
  | n + 1 => m6_mixNotes_L5b  (m6_mixNotes_L5  E5_42 n) E5_42
set_option maxRecDepth 100000 in
set_option maxHeartbeats 4000000 in
theorem m6_mixNotes_L5b_ok {κ : Kx} (hκ : Gd κ cX6_mixNotes 6 RX6 (some .long) 5) {K5 : Int64 → Int32 → St → Option (Int64 × St)} (hK5 : ∀ (x1 : Int64) (x2 : Int32) (σ : St), Ab sy_vl κ 5 [sy_vr 0, none, none, sy_vl x1, none, sy_vi x2] [] σ (K5 x1 x2 σ)) {E5_42 : Int64 → St → Option (Int64 × St)} (hE5_42 : ∀ (y3 : Int64) (σ : St), Ab sy_vl κ 42 [sy_vr 0, none, none, sy_vl y3, none, none] [] σ (E5_42 y3 σ)) (x1 : Int64) (x2 : Int32) (σ : St) : Ab sy_vl κ 5 [sy_vr 0, none, none, sy_vl x1, none, sy_vi x2] [] σ (m6_mixNotes_L5b  K5 E5_42 x1 x2 σ) := by
  unfold m6_mixNotes_L5b
  refine ab_iload hκ dX6_mixNotes_5 rfl ?_
  refine ab_bipush (v := 16) hκ dX6_mixNotes_7 rfl ?_
  refine ab_icmp_ge (tgt := 42) hκ dX6_mixNotes_9 rfl ?_ ?_
  · refine ab_fg (lv' := [sy_vr 0, none, none, sy_vl x1, none, none]) [5] rfl ?_
    exact hE5_42 x1 σ
  · refine ab_lload_n hκ dX6_mixNotes_12 rfl ?_
    refine ab_aload_n hκ dX6_mixNotes_13 rfl ?_
    refine ab_iload hκ dX6_mixNotes_14 rfl ?_
    refine ab_iconst (v := 0) hκ dX6_mixNotes_16 rfl ?_
    refine ab_cVi (vs := [.int x2, .int 0]) (st := [.long x1]) hκ dX6_mixNotes_17 kl_RX6_349 ki_X6_note kv_X6_note (sy_o6 rfl) rfl rfl (m6_note_ok x2 0 σ) rfl (by decide) (Nat.le_of_ble_eq_true rfl) rfl (fun r4 σ3 => ?_)
    refine ab_i2l hκ dX6_mixNotes_20 ?_
    refine ab_cSl (vs := [.long x1, .long (Int32.toInt64 r4)]) (st := []) hκ dX6_mixNotes_21 kl_RX6_301 ki_X6_mix kv_X6_mix (m6_mix_ok x1 (Int32.toInt64 r4) σ3) rfl (by decide) (Nat.le_of_ble_eq_true rfl) rfl (fun r6 σ5 => ?_)
    refine ab_aload_n hκ dX6_mixNotes_24 rfl ?_
    refine ab_iload hκ dX6_mixNotes_25 rfl ?_
    refine ab_iconst (v := 1) hκ dX6_mixNotes_27 rfl ?_
    refine ab_cVi (vs := [.int x2, .int 1]) (st := [.long r6]) hκ dX6_mixNotes_28 kl_RX6_349 ki_X6_note kv_X6_note (sy_o6 rfl) rfl rfl (m6_note_ok x2 1 σ5) rfl (by decide) (Nat.le_of_ble_eq_true rfl) rfl (fun r8 σ7 => ?_)
    refine ab_i2l hκ dX6_mixNotes_31 ?_
    refine ab_cSl (vs := [.long r6, .long (Int32.toInt64 r8)]) (st := []) hκ dX6_mixNotes_32 kl_RX6_301 ki_X6_mix kv_X6_mix (m6_mix_ok r6 (Int32.toInt64 r8) σ7) rfl (by decide) (Nat.le_of_ble_eq_true rfl) rfl (fun r10 σ9 => ?_)
    refine ab_lstore_n (lv' := [sy_vr 0, none, none, sy_vl r10, none, sy_vi x2]) hκ dX6_mixNotes_35 rfl (by decide) rfl ?_
    refine ab_iinc (v := (x2 + 1)) (lv' := [sy_vr 0, none, none, sy_vl r10, none, sy_vi (x2 + 1)]) hκ dX6_mixNotes_36 rfl rfl (by decide) rfl ?_
    refine ab_goto (tgt := 5) hκ dX6_mixNotes_39 rfl ?_
    exact hK5 r10 (x2 + 1) σ9
theorem m6_mixNotes_L5_ok {κ : Kx} (hκ : Gd κ cX6_mixNotes 6 RX6 (some .long) 5) {E5_42 : Int64 → St → Option (Int64 × St)} (hE5_42 : ∀ (y3 : Int64) (σ : St), Ab sy_vl κ 42 [sy_vr 0, none, none, sy_vl y3, none, none] [] σ (E5_42 y3 σ)) : ∀ (n : Nat) (x1 : Int64) (x2 : Int32) (σ : St), Ab sy_vl κ 5 [sy_vr 0, none, none, sy_vl x1, none, sy_vi x2] [] σ (m6_mixNotes_L5  E5_42 n x1 x2 σ) := by
  intro n
  induction n with
  | zero => intros; exact ab_none
  | succ n ih => exact fun x1 x2 σ => m6_mixNotes_L5b_ok hκ   ih hE5_42 x1 x2 σ
def m6_mixNotes_L45b (K45 : Int64 → Int32 → St → Option (Int64 × St)) (E45_97 : Int64 → St → Option (Int64 × St)) (x13 : Int64) (x14 : Int32) (σ : St) : Option (Int64 × St) := if (σ 5 5) ≤ x14 then (E45_97 x13 σ) else (sy_bd (m6_heard x14 σ) (fun r16 σ15 => sy_bd (m6_mix x13 (Int32.toInt64 r16) σ15) (fun r18 σ17 => sy_bd (m6_chance 5 x14 0 σ17) (fun r20 σ19 => sy_bd (m6_mix r18 r20 σ19) (fun r22 σ21 => sy_bd (m6_chance 5 x14 1 σ21) (fun r24 σ23 => sy_bd (m6_mix r22 r24 σ23) (fun r26 σ25 => K45 r26 (x14 + 1) σ25)))))))
def m6_mixNotes_L45 (E45_97 : Int64 → St → Option (Int64 × St)) : Nat → Int64 → Int32 → St → Option (Int64 × St)
  | 0 => fun _ _ _ => none
  | n + 1 => m6_mixNotes_L45b  (m6_mixNotes_L45  E45_97 n) E45_97
set_option maxRecDepth 100000 in
set_option maxHeartbeats 4000000 in
theorem m6_mixNotes_L45b_ok {κ : Kx} (hκ : Gd κ cX6_mixNotes 6 RX6 (some .long) 5) {K45 : Int64 → Int32 → St → Option (Int64 × St)} (hK45 : ∀ (x13 : Int64) (x14 : Int32) (σ : St), Ab sy_vl κ 45 [sy_vr 0, none, none, sy_vl x13, none, sy_vi x14] [] σ (K45 x13 x14 σ)) {E45_97 : Int64 → St → Option (Int64 × St)} (hE45_97 : ∀ (y3 : Int64) (σ : St), Ab sy_vl κ 97 [none, none, none, sy_vl y3, none, none] [] σ (E45_97 y3 σ)) (x13 : Int64) (x14 : Int32) (σ : St) : Ab sy_vl κ 45 [sy_vr 0, none, none, sy_vl x13, none, sy_vi x14] [] σ (m6_mixNotes_L45b  K45 E45_97 x13 x14 σ) := by
  unfold m6_mixNotes_L45b
  refine ab_iload hκ dX6_mixNotes_45 rfl ?_
  refine ab_aload_n hκ dX6_mixNotes_47 rfl ?_
  refine ab_getf (v := .ref 5) hκ (sy_o6 rfl) kf_RX6_24 rfl dX6_mixNotes_48 rfl ?_
  refine ab_getf (v := .int (σ 5 5)) hκ (sy_o0 (Or.inl rfl)) kf_RX6_120 rfl dX6_mixNotes_51 rfl ?_
  refine ab_icmp_ge (tgt := 97) hκ dX6_mixNotes_54 rfl ?_ ?_
  · refine ab_fg (lv' := [none, none, none, sy_vl x13, none, none]) [0, 5] rfl ?_
    exact hE45_97 x13 σ
  · refine ab_lload_n hκ dX6_mixNotes_57 rfl ?_
    refine ab_aload_n hκ dX6_mixNotes_58 rfl ?_
    refine ab_iload hκ dX6_mixNotes_59 rfl ?_
    refine ab_cVi (vs := [.int x14]) (st := [.long x13]) hκ dX6_mixNotes_61 kl_RX6_352 ki_X6_heard kv_X6_heard (sy_o6 rfl) rfl rfl (m6_heard_ok x14 σ) rfl (by decide) (Nat.le_of_ble_eq_true rfl) rfl (fun r16 σ15 => ?_)
    refine ab_i2l hκ dX6_mixNotes_64 ?_
    refine ab_cSl (vs := [.long x13, .long (Int32.toInt64 r16)]) (st := []) hκ dX6_mixNotes_65 kl_RX6_301 ki_X6_mix kv_X6_mix (m6_mix_ok x13 (Int32.toInt64 r16) σ15) rfl (by decide) (Nat.le_of_ble_eq_true rfl) rfl (fun r18 σ17 => ?_)
    refine ab_aload_n hκ dX6_mixNotes_68 rfl ?_
    refine ab_iconst (v := 5) hκ dX6_mixNotes_69 rfl ?_
    refine ab_iload hκ dX6_mixNotes_70 rfl ?_
    refine ab_iconst (v := 0) hκ dX6_mixNotes_72 rfl ?_
    refine ab_cVl (vs := [.int 5, .int x14, .int 0]) (st := [.long r18]) hκ dX6_mixNotes_73 kl_RX6_355 ki_X6_chance kv_X6_chance (sy_o6 rfl) rfl rfl (m6_chance_ok 5 x14 0 σ17) rfl (by decide) (Nat.le_of_ble_eq_true rfl) rfl (fun r20 σ19 => ?_)
    refine ab_cSl (vs := [.long r18, .long r20]) (st := []) hκ dX6_mixNotes_76 kl_RX6_301 ki_X6_mix kv_X6_mix (m6_mix_ok r18 r20 σ19) rfl (by decide) (Nat.le_of_ble_eq_true rfl) rfl (fun r22 σ21 => ?_)
    refine ab_aload_n hκ dX6_mixNotes_79 rfl ?_
    refine ab_iconst (v := 5) hκ dX6_mixNotes_80 rfl ?_
    refine ab_iload hκ dX6_mixNotes_81 rfl ?_
    refine ab_iconst (v := 1) hκ dX6_mixNotes_83 rfl ?_
    refine ab_cVl (vs := [.int 5, .int x14, .int 1]) (st := [.long r22]) hκ dX6_mixNotes_84 kl_RX6_355 ki_X6_chance kv_X6_chance (sy_o6 rfl) rfl rfl (m6_chance_ok 5 x14 1 σ21) rfl (by decide) (Nat.le_of_ble_eq_true rfl) rfl (fun r24 σ23 => ?_)
    refine ab_cSl (vs := [.long r22, .long r24]) (st := []) hκ dX6_mixNotes_87 kl_RX6_301 ki_X6_mix kv_X6_mix (m6_mix_ok r22 r24 σ23) rfl (by decide) (Nat.le_of_ble_eq_true rfl) rfl (fun r26 σ25 => ?_)
    refine ab_lstore_n (lv' := [sy_vr 0, none, none, sy_vl r26, none, sy_vi x14]) hκ dX6_mixNotes_90 rfl (by decide) rfl ?_
    refine ab_iinc (v := (x14 + 1)) (lv' := [sy_vr 0, none, none, sy_vl r26, none, sy_vi (x14 + 1)]) hκ dX6_mixNotes_91 rfl rfl (by decide) rfl ?_
    refine ab_goto (tgt := 45) hκ dX6_mixNotes_94 rfl ?_
    exact hK45 r26 (x14 + 1) σ25
theorem m6_mixNotes_L45_ok {κ : Kx} (hκ : Gd κ cX6_mixNotes 6 RX6 (some .long) 5) {E45_97 : Int64 → St → Option (Int64 × St)} (hE45_97 : ∀ (y3 : Int64) (σ : St), Ab sy_vl κ 97 [none, none, none, sy_vl y3, none, none] [] σ (E45_97 y3 σ)) : ∀ (n : Nat) (x13 : Int64) (x14 : Int32) (σ : St), Ab sy_vl κ 45 [sy_vr 0, none, none, sy_vl x13, none, sy_vi x14] [] σ (m6_mixNotes_L45  E45_97 n x13 x14 σ) := by
  intro n
  induction n with
  | zero => intros; exact ab_none
  | succ n ih => exact fun x13 x14 σ => m6_mixNotes_L45b_ok hκ   ih hE45_97 x13 x14 σ
def m6_mixNotes (a1 : Int64) (σ : St) : Option (Int64 × St) := m6_mixNotes_L5 (fun y11 σ12 => m6_mixNotes_L45 (fun y27 σ28 => some (y27, σ28)) sy_FU y11 0 σ12) sy_FU a1 0 σ
set_option maxRecDepth 100000 in
set_option maxHeartbeats 4000000 in
theorem m6_mixNotes_ok (a1 : Int64) (σ : St) : Cok sy_vl yX6_mixNotes cX6_mixNotes 6 (some .long) 5 [.ref 0, .long a1] σ (m6_mixNotes a1 σ) := by
  refine cok_of (own := RX6) (by decide) rfl (fun ad => Nat.le_of_ble_eq_true rfl) (fun κ hκ => ?_)
  show Ab sy_vl κ 0 [sy_vr 0, sy_vl a1, none, none, none, none] [] σ (m6_mixNotes a1 σ)
  unfold m6_mixNotes
  refine ab_lload_n hκ dX6_mixNotes_0 rfl ?_
  refine ab_lstore_n (lv' := [sy_vr 0, sy_vl a1, none, sy_vl a1, none, none]) hκ dX6_mixNotes_1 rfl (by decide) rfl ?_
  refine ab_iconst (v := 0) hκ dX6_mixNotes_2 rfl ?_
  refine ab_istore (lv' := [sy_vr 0, sy_vl a1, none, sy_vl a1, none, sy_vi 0]) hκ dX6_mixNotes_3 (by decide) rfl ?_
  refine ab_fg (lv' := [sy_vr 0, none, none, sy_vl a1, none, sy_vi 0]) [1] rfl ?_
  refine m6_mixNotes_L5_ok hκ ?_ _ _ _ _
  · intro y11 σ12
    refine ab_iconst (v := 0) hκ dX6_mixNotes_42 rfl ?_
    refine ab_istore (lv' := [sy_vr 0, none, none, sy_vl y11, none, sy_vi 0]) hκ dX6_mixNotes_43 (by decide) rfl ?_
    refine m6_mixNotes_L45_ok hκ ?_ _ _ _ _
    · intro y27 σ28
      refine ab_lload_n hκ dX6_mixNotes_97 rfl ?_
      exact ab_lret hκ dX6_mixNotes_98
-- BreathBand.mixPlayers(J)J, depth 6
def m6_mixPlayers_L5b (K5 : Int64 → Int32 → St → Option (Int64 × St)) (E5_116 : Int64 → St → Option (Int64 × St)) (x1 : Int64) (x2 : Int32) (σ : St) : Option (Int64 × St) := if (σ 5 0) ≤ x2 then (E5_116 x1 σ) else (sy_bd (m6_player x2 0 σ) (fun r4 σ3 => sy_bd (m6_mix x1 (Int32.toInt64 r4) σ3) (fun r6 σ5 => sy_bd (m6_player x2 1 σ5) (fun r8 σ7 => sy_bd (m6_mix r6 (Int32.toInt64 r8) σ7) (fun r10 σ9 => sy_bd (m6_takes x2 0 σ9) (fun r12 σ11 => sy_bd (m6_mix r10 (Int32.toInt64 r12) σ11) (fun r14 σ13 => sy_bd (m6_takes x2 1 σ13) (fun r16 σ15 => sy_bd (m6_mix r14 (Int32.toInt64 r16) σ15) (fun r18 σ17 => sy_bd (m6_takes x2 2 σ17) (fun r20 σ19 => sy_bd (m6_mix r18 (Int32.toInt64 r20) σ19) (fun r22 σ21 => sy_bd (m6_was x2 0 σ21) (fun r24 σ23 => sy_bd (m6_mix r22 (Int32.toInt64 r24) σ23) (fun r26 σ25 => sy_bd (m6_was x2 1 σ25) (fun r28 σ27 => sy_bd (m6_mix r26 (Int32.toInt64 r28) σ27) (fun r30 σ29 => sy_bd (m6_ask x2 σ29) (fun r32 σ31 => sy_bd (m6_mix r30 (Int32.toInt64 r32) σ31) (fun r34 σ33 => K5 r34 (x2 + 1) σ33)))))))))))))))))
def m6_mixPlayers_L5 (E5_116 : Int64 → St → Option (Int64 × St)) : Nat → Int64 → Int32 → St → Option (Int64 × St)
  | 0 => fun _ _ _ => none
  | n + 1 => m6_mixPlayers_L5b  (m6_mixPlayers_L5  E5_116 n) E5_116
set_option maxRecDepth 100000 in
set_option maxHeartbeats 4000000 in
theorem m6_mixPlayers_L5b_ok {κ : Kx} (hκ : Gd κ cX6_mixPlayers 6 RX6 (some .long) 6) {K5 : Int64 → Int32 → St → Option (Int64 × St)} (hK5 : ∀ (x1 : Int64) (x2 : Int32) (σ : St), Ab sy_vl κ 5 [sy_vr 0, none, none, sy_vl x1, none, sy_vi x2] [] σ (K5 x1 x2 σ)) {E5_116 : Int64 → St → Option (Int64 × St)} (hE5_116 : ∀ (y3 : Int64) (σ : St), Ab sy_vl κ 116 [none, none, none, sy_vl y3, none, none] [] σ (E5_116 y3 σ)) (x1 : Int64) (x2 : Int32) (σ : St) : Ab sy_vl κ 5 [sy_vr 0, none, none, sy_vl x1, none, sy_vi x2] [] σ (m6_mixPlayers_L5b  K5 E5_116 x1 x2 σ) := by
  unfold m6_mixPlayers_L5b
  refine ab_iload hκ dX6_mixPlayers_5 rfl ?_
  refine ab_aload_n hκ dX6_mixPlayers_7 rfl ?_
  refine ab_getf (v := .ref 5) hκ (sy_o6 rfl) kf_RX6_24 rfl dX6_mixPlayers_8 rfl ?_
  refine ab_getf (v := .int (σ 5 0)) hκ (sy_o0 (Or.inl rfl)) kf_RX6_193 rfl dX6_mixPlayers_11 rfl ?_
  refine ab_icmp_ge (tgt := 116) hκ dX6_mixPlayers_14 rfl ?_ ?_
  · refine ab_fg (lv' := [none, none, none, sy_vl x1, none, none]) [0, 5] rfl ?_
    exact hE5_116 x1 σ
  · refine ab_lload_n hκ dX6_mixPlayers_17 rfl ?_
    refine ab_aload_n hκ dX6_mixPlayers_18 rfl ?_
    refine ab_iload hκ dX6_mixPlayers_19 rfl ?_
    refine ab_iconst (v := 0) hκ dX6_mixPlayers_21 rfl ?_
    refine ab_cVi (vs := [.int x2, .int 0]) (st := [.long x1]) hκ dX6_mixPlayers_22 kl_RX6_359 ki_X6_player kv_X6_player (sy_o6 rfl) rfl rfl (m6_player_ok x2 0 σ) rfl (by decide) (Nat.le_of_ble_eq_true rfl) rfl (fun r4 σ3 => ?_)
    refine ab_i2l hκ dX6_mixPlayers_25 ?_
    refine ab_cSl (vs := [.long x1, .long (Int32.toInt64 r4)]) (st := []) hκ dX6_mixPlayers_26 kl_RX6_301 ki_X6_mix kv_X6_mix (m6_mix_ok x1 (Int32.toInt64 r4) σ3) rfl (by decide) (Nat.le_of_ble_eq_true rfl) rfl (fun r6 σ5 => ?_)
    refine ab_aload_n hκ dX6_mixPlayers_29 rfl ?_
    refine ab_iload hκ dX6_mixPlayers_30 rfl ?_
    refine ab_iconst (v := 1) hκ dX6_mixPlayers_32 rfl ?_
    refine ab_cVi (vs := [.int x2, .int 1]) (st := [.long r6]) hκ dX6_mixPlayers_33 kl_RX6_359 ki_X6_player kv_X6_player (sy_o6 rfl) rfl rfl (m6_player_ok x2 1 σ5) rfl (by decide) (Nat.le_of_ble_eq_true rfl) rfl (fun r8 σ7 => ?_)
    refine ab_i2l hκ dX6_mixPlayers_36 ?_
    refine ab_cSl (vs := [.long r6, .long (Int32.toInt64 r8)]) (st := []) hκ dX6_mixPlayers_37 kl_RX6_301 ki_X6_mix kv_X6_mix (m6_mix_ok r6 (Int32.toInt64 r8) σ7) rfl (by decide) (Nat.le_of_ble_eq_true rfl) rfl (fun r10 σ9 => ?_)
    refine ab_lstore_n (lv' := [sy_vr 0, none, none, sy_vl r10, none, sy_vi x2]) hκ dX6_mixPlayers_40 rfl (by decide) rfl ?_
    refine ab_lload_n hκ dX6_mixPlayers_41 rfl ?_
    refine ab_aload_n hκ dX6_mixPlayers_42 rfl ?_
    refine ab_iload hκ dX6_mixPlayers_43 rfl ?_
    refine ab_iconst (v := 0) hκ dX6_mixPlayers_45 rfl ?_
    refine ab_cVi (vs := [.int x2, .int 0]) (st := [.long r10]) hκ dX6_mixPlayers_46 kl_RX6_362 ki_X6_takes kv_X6_takes (sy_o6 rfl) rfl rfl (m6_takes_ok x2 0 σ9) rfl (by decide) (Nat.le_of_ble_eq_true rfl) rfl (fun r12 σ11 => ?_)
    refine ab_i2l hκ dX6_mixPlayers_49 ?_
    refine ab_cSl (vs := [.long r10, .long (Int32.toInt64 r12)]) (st := []) hκ dX6_mixPlayers_50 kl_RX6_301 ki_X6_mix kv_X6_mix (m6_mix_ok r10 (Int32.toInt64 r12) σ11) rfl (by decide) (Nat.le_of_ble_eq_true rfl) rfl (fun r14 σ13 => ?_)
    refine ab_aload_n hκ dX6_mixPlayers_53 rfl ?_
    refine ab_iload hκ dX6_mixPlayers_54 rfl ?_
    refine ab_iconst (v := 1) hκ dX6_mixPlayers_56 rfl ?_
    refine ab_cVi (vs := [.int x2, .int 1]) (st := [.long r14]) hκ dX6_mixPlayers_57 kl_RX6_362 ki_X6_takes kv_X6_takes (sy_o6 rfl) rfl rfl (m6_takes_ok x2 1 σ13) rfl (by decide) (Nat.le_of_ble_eq_true rfl) rfl (fun r16 σ15 => ?_)
    refine ab_i2l hκ dX6_mixPlayers_60 ?_
    refine ab_cSl (vs := [.long r14, .long (Int32.toInt64 r16)]) (st := []) hκ dX6_mixPlayers_61 kl_RX6_301 ki_X6_mix kv_X6_mix (m6_mix_ok r14 (Int32.toInt64 r16) σ15) rfl (by decide) (Nat.le_of_ble_eq_true rfl) rfl (fun r18 σ17 => ?_)
    refine ab_aload_n hκ dX6_mixPlayers_64 rfl ?_
    refine ab_iload hκ dX6_mixPlayers_65 rfl ?_
    refine ab_iconst (v := 2) hκ dX6_mixPlayers_67 rfl ?_
    refine ab_cVi (vs := [.int x2, .int 2]) (st := [.long r18]) hκ dX6_mixPlayers_68 kl_RX6_362 ki_X6_takes kv_X6_takes (sy_o6 rfl) rfl rfl (m6_takes_ok x2 2 σ17) rfl (by decide) (Nat.le_of_ble_eq_true rfl) rfl (fun r20 σ19 => ?_)
    refine ab_i2l hκ dX6_mixPlayers_71 ?_
    refine ab_cSl (vs := [.long r18, .long (Int32.toInt64 r20)]) (st := []) hκ dX6_mixPlayers_72 kl_RX6_301 ki_X6_mix kv_X6_mix (m6_mix_ok r18 (Int32.toInt64 r20) σ19) rfl (by decide) (Nat.le_of_ble_eq_true rfl) rfl (fun r22 σ21 => ?_)
    refine ab_lstore_n (lv' := [sy_vr 0, none, none, sy_vl r22, none, sy_vi x2]) hκ dX6_mixPlayers_75 rfl (by decide) rfl ?_
    refine ab_lload_n hκ dX6_mixPlayers_76 rfl ?_
    refine ab_aload_n hκ dX6_mixPlayers_77 rfl ?_
    refine ab_iload hκ dX6_mixPlayers_78 rfl ?_
    refine ab_iconst (v := 0) hκ dX6_mixPlayers_80 rfl ?_
    refine ab_cVi (vs := [.int x2, .int 0]) (st := [.long r22]) hκ dX6_mixPlayers_81 kl_RX6_365 ki_X6_was kv_X6_was (sy_o6 rfl) rfl rfl (m6_was_ok x2 0 σ21) rfl (by decide) (Nat.le_of_ble_eq_true rfl) rfl (fun r24 σ23 => ?_)
    refine ab_i2l hκ dX6_mixPlayers_84 ?_
    refine ab_cSl (vs := [.long r22, .long (Int32.toInt64 r24)]) (st := []) hκ dX6_mixPlayers_85 kl_RX6_301 ki_X6_mix kv_X6_mix (m6_mix_ok r22 (Int32.toInt64 r24) σ23) rfl (by decide) (Nat.le_of_ble_eq_true rfl) rfl (fun r26 σ25 => ?_)
    refine ab_aload_n hκ dX6_mixPlayers_88 rfl ?_
    refine ab_iload hκ dX6_mixPlayers_89 rfl ?_
    refine ab_iconst (v := 1) hκ dX6_mixPlayers_91 rfl ?_
    refine ab_cVi (vs := [.int x2, .int 1]) (st := [.long r26]) hκ dX6_mixPlayers_92 kl_RX6_365 ki_X6_was kv_X6_was (sy_o6 rfl) rfl rfl (m6_was_ok x2 1 σ25) rfl (by decide) (Nat.le_of_ble_eq_true rfl) rfl (fun r28 σ27 => ?_)
    refine ab_i2l hκ dX6_mixPlayers_95 ?_
    refine ab_cSl (vs := [.long r26, .long (Int32.toInt64 r28)]) (st := []) hκ dX6_mixPlayers_96 kl_RX6_301 ki_X6_mix kv_X6_mix (m6_mix_ok r26 (Int32.toInt64 r28) σ27) rfl (by decide) (Nat.le_of_ble_eq_true rfl) rfl (fun r30 σ29 => ?_)
    refine ab_aload_n hκ dX6_mixPlayers_99 rfl ?_
    refine ab_iload hκ dX6_mixPlayers_100 rfl ?_
    refine ab_cVi (vs := [.int x2]) (st := [.long r30]) hκ dX6_mixPlayers_102 kl_RX6_368 ki_X6_ask kv_X6_ask (sy_o6 rfl) rfl rfl (m6_ask_ok x2 σ29) rfl (by decide) (Nat.le_of_ble_eq_true rfl) rfl (fun r32 σ31 => ?_)
    refine ab_i2l hκ dX6_mixPlayers_105 ?_
    refine ab_cSl (vs := [.long r30, .long (Int32.toInt64 r32)]) (st := []) hκ dX6_mixPlayers_106 kl_RX6_301 ki_X6_mix kv_X6_mix (m6_mix_ok r30 (Int32.toInt64 r32) σ31) rfl (by decide) (Nat.le_of_ble_eq_true rfl) rfl (fun r34 σ33 => ?_)
    refine ab_lstore_n (lv' := [sy_vr 0, none, none, sy_vl r34, none, sy_vi x2]) hκ dX6_mixPlayers_109 rfl (by decide) rfl ?_
    refine ab_iinc (v := (x2 + 1)) (lv' := [sy_vr 0, none, none, sy_vl r34, none, sy_vi (x2 + 1)]) hκ dX6_mixPlayers_110 rfl rfl (by decide) rfl ?_
    refine ab_goto (tgt := 5) hκ dX6_mixPlayers_113 rfl ?_
    exact hK5 r34 (x2 + 1) σ33
theorem m6_mixPlayers_L5_ok {κ : Kx} (hκ : Gd κ cX6_mixPlayers 6 RX6 (some .long) 6) {E5_116 : Int64 → St → Option (Int64 × St)} (hE5_116 : ∀ (y3 : Int64) (σ : St), Ab sy_vl κ 116 [none, none, none, sy_vl y3, none, none] [] σ (E5_116 y3 σ)) : ∀ (n : Nat) (x1 : Int64) (x2 : Int32) (σ : St), Ab sy_vl κ 5 [sy_vr 0, none, none, sy_vl x1, none, sy_vi x2] [] σ (m6_mixPlayers_L5  E5_116 n x1 x2 σ) := by
  intro n
  induction n with
  | zero => intros; exact ab_none
  | succ n ih => exact fun x1 x2 σ => m6_mixPlayers_L5b_ok hκ   ih hE5_116 x1 x2 σ
def m6_mixPlayers (a1 : Int64) (σ : St) : Option (Int64 × St) := m6_mixPlayers_L5 (fun y35 σ36 => some (y35, σ36)) sy_FU a1 0 σ
set_option maxRecDepth 100000 in
set_option maxHeartbeats 4000000 in
theorem m6_mixPlayers_ok (a1 : Int64) (σ : St) : Cok sy_vl yX6_mixPlayers cX6_mixPlayers 6 (some .long) 6 [.ref 0, .long a1] σ (m6_mixPlayers a1 σ) := by
  refine cok_of (own := RX6) (by decide) rfl (fun ad => Nat.le_of_ble_eq_true rfl) (fun κ hκ => ?_)
  show Ab sy_vl κ 0 [sy_vr 0, sy_vl a1, none, none, none, none] [] σ (m6_mixPlayers a1 σ)
  unfold m6_mixPlayers
  refine ab_lload_n hκ dX6_mixPlayers_0 rfl ?_
  refine ab_lstore_n (lv' := [sy_vr 0, sy_vl a1, none, sy_vl a1, none, none]) hκ dX6_mixPlayers_1 rfl (by decide) rfl ?_
  refine ab_iconst (v := 0) hκ dX6_mixPlayers_2 rfl ?_
  refine ab_istore (lv' := [sy_vr 0, sy_vl a1, none, sy_vl a1, none, sy_vi 0]) hκ dX6_mixPlayers_3 (by decide) rfl ?_
  refine ab_fg (lv' := [sy_vr 0, none, none, sy_vl a1, none, sy_vi 0]) [1] rfl ?_
  refine m6_mixPlayers_L5_ok hκ ?_ _ _ _ _
  · intro y35 σ36
    refine ab_lload_n hκ dX6_mixPlayers_116 rfl ?_
    exact ab_lret hκ dX6_mixPlayers_117
-- BreathBand.digest()J, depth 7
def m6_digest_L6b (K6 : Int64 → Int32 → St → Option (Int64 × St)) (E6_29 : Int64 → St → Option (Int64 × St)) (x1 : Int64) (x2 : Int32) (σ : St) : Option (Int64 × St) := if 7 < x2 then (E6_29 x1 σ) else (sy_bd (m6_count x2 σ) (fun r4 σ3 => sy_bd (m6_mix x1 (Int32.toInt64 r4) σ3) (fun r6 σ5 => K6 r6 (x2 + 1) σ5)))
def m6_digest_L6 (E6_29 : Int64 → St → Option (Int64 × St)) : Nat → Int64 → Int32 → St → Option (Int64 × St)
  | 0 => fun _ _ _ => none
  | n + 1 => m6_digest_L6b  (m6_digest_L6  E6_29 n) E6_29
set_option maxRecDepth 100000 in
set_option maxHeartbeats 4000000 in
theorem m6_digest_L6b_ok {κ : Kx} (hκ : Gd κ cX6_digest 4 RX6 (some .long) 7) {K6 : Int64 → Int32 → St → Option (Int64 × St)} (hK6 : ∀ (x1 : Int64) (x2 : Int32) (σ : St), Ab sy_vl κ 6 [sy_vr 0, sy_vl x1, none, sy_vi x2] [] σ (K6 x1 x2 σ)) {E6_29 : Int64 → St → Option (Int64 × St)} (hE6_29 : ∀ (y1 : Int64) (σ : St), Ab sy_vl κ 29 [sy_vr 0, sy_vl y1, none, none] [] σ (E6_29 y1 σ)) (x1 : Int64) (x2 : Int32) (σ : St) : Ab sy_vl κ 6 [sy_vr 0, sy_vl x1, none, sy_vi x2] [] σ (m6_digest_L6b  K6 E6_29 x1 x2 σ) := by
  unfold m6_digest_L6b
  refine ab_iload_n hκ dX6_digest_6 rfl ?_
  refine ab_bipush (v := 7) hκ dX6_digest_7 rfl ?_
  refine ab_icmp_gt (tgt := 29) hκ dX6_digest_9 rfl ?_ ?_
  · refine ab_fg (lv' := [sy_vr 0, sy_vl x1, none, none]) [3] rfl ?_
    exact hE6_29 x1 σ
  · refine ab_lload_n hκ dX6_digest_12 rfl ?_
    refine ab_aload_n hκ dX6_digest_13 rfl ?_
    refine ab_iload_n hκ dX6_digest_14 rfl ?_
    refine ab_cVi (vs := [.int x2]) (st := [.long x1]) hκ dX6_digest_15 kl_RX6_298 ki_X6_count kv_X6_count (sy_o6 rfl) rfl rfl (m6_count_ok x2 σ) rfl (by decide) (Nat.le_of_ble_eq_true rfl) rfl (fun r4 σ3 => ?_)
    refine ab_i2l hκ dX6_digest_18 ?_
    refine ab_cSl (vs := [.long x1, .long (Int32.toInt64 r4)]) (st := []) hκ dX6_digest_19 kl_RX6_301 ki_X6_mix kv_X6_mix (m6_mix_ok x1 (Int32.toInt64 r4) σ3) rfl (by decide) (Nat.le_of_ble_eq_true rfl) rfl (fun r6 σ5 => ?_)
    refine ab_lstore_n (lv' := [sy_vr 0, sy_vl r6, none, sy_vi x2]) hκ dX6_digest_22 rfl (by decide) rfl ?_
    refine ab_iinc (v := (x2 + 1)) (lv' := [sy_vr 0, sy_vl r6, none, sy_vi (x2 + 1)]) hκ dX6_digest_23 rfl rfl (by decide) rfl ?_
    refine ab_goto (tgt := 6) hκ dX6_digest_26 rfl ?_
    exact hK6 r6 (x2 + 1) σ5
theorem m6_digest_L6_ok {κ : Kx} (hκ : Gd κ cX6_digest 4 RX6 (some .long) 7) {E6_29 : Int64 → St → Option (Int64 × St)} (hE6_29 : ∀ (y1 : Int64) (σ : St), Ab sy_vl κ 29 [sy_vr 0, sy_vl y1, none, none] [] σ (E6_29 y1 σ)) : ∀ (n : Nat) (x1 : Int64) (x2 : Int32) (σ : St), Ab sy_vl κ 6 [sy_vr 0, sy_vl x1, none, sy_vi x2] [] σ (m6_digest_L6  E6_29 n x1 x2 σ) := by
  intro n
  induction n with
  | zero => intros; exact ab_none
  | succ n ih => exact fun x1 x2 σ => m6_digest_L6b_ok hκ   ih hE6_29 x1 x2 σ
def m6_digest_L51b (K51 : Int64 → Int32 → St → Option (Int64 × St)) (E51_95 : Int64 → St → Option (Int64 × St)) (x17 : Int64) (x18 : Int32) (σ : St) : Option (Int64 × St) := if 24 ≤ x18 then (E51_95 x17 σ) else (sy_bd (m6_at x18 0 σ) (fun r20 σ19 => sy_bd (m6_mix x17 (Int32.toInt64 r20) σ19) (fun r22 σ21 => sy_bd (m6_at x18 1 σ21) (fun r24 σ23 => sy_bd (m6_mix r22 (Int32.toInt64 r24) σ23) (fun r26 σ25 => sy_bd (m6_at x18 2 σ25) (fun r28 σ27 => sy_bd (m6_mix r26 (Int32.toInt64 r28) σ27) (fun r30 σ29 => K51 r30 (x18 + 1) σ29)))))))
def m6_digest_L51 (E51_95 : Int64 → St → Option (Int64 × St)) : Nat → Int64 → Int32 → St → Option (Int64 × St)
  | 0 => fun _ _ _ => none
  | n + 1 => m6_digest_L51b  (m6_digest_L51  E51_95 n) E51_95
set_option maxRecDepth 100000 in
set_option maxHeartbeats 4000000 in
theorem m6_digest_L51b_ok {κ : Kx} (hκ : Gd κ cX6_digest 4 RX6 (some .long) 7) {K51 : Int64 → Int32 → St → Option (Int64 × St)} (hK51 : ∀ (x17 : Int64) (x18 : Int32) (σ : St), Ab sy_vl κ 51 [sy_vr 0, sy_vl x17, none, sy_vi x18] [] σ (K51 x17 x18 σ)) {E51_95 : Int64 → St → Option (Int64 × St)} (hE51_95 : ∀ (y1 : Int64) (σ : St), Ab sy_vl κ 95 [sy_vr 0, sy_vl y1, none, none] [] σ (E51_95 y1 σ)) (x17 : Int64) (x18 : Int32) (σ : St) : Ab sy_vl κ 51 [sy_vr 0, sy_vl x17, none, sy_vi x18] [] σ (m6_digest_L51b  K51 E51_95 x17 x18 σ) := by
  unfold m6_digest_L51b
  refine ab_iload_n hκ dX6_digest_51 rfl ?_
  refine ab_bipush (v := 24) hκ dX6_digest_52 rfl ?_
  refine ab_icmp_ge (tgt := 95) hκ dX6_digest_54 rfl ?_ ?_
  · refine ab_fg (lv' := [sy_vr 0, sy_vl x17, none, none]) [3] rfl ?_
    exact hE51_95 x17 σ
  · refine ab_lload_n hκ dX6_digest_57 rfl ?_
    refine ab_aload_n hκ dX6_digest_58 rfl ?_
    refine ab_iload_n hκ dX6_digest_59 rfl ?_
    refine ab_iconst (v := 0) hκ dX6_digest_60 rfl ?_
    refine ab_cVi (vs := [.int x18, .int 0]) (st := [.long x17]) hκ dX6_digest_61 kl_RX6_308 ki_X6_at kv_X6_at (sy_o6 rfl) rfl rfl (m6_at_ok x18 0 σ) rfl (by decide) (Nat.le_of_ble_eq_true rfl) rfl (fun r20 σ19 => ?_)
    refine ab_i2l hκ dX6_digest_64 ?_
    refine ab_cSl (vs := [.long x17, .long (Int32.toInt64 r20)]) (st := []) hκ dX6_digest_65 kl_RX6_301 ki_X6_mix kv_X6_mix (m6_mix_ok x17 (Int32.toInt64 r20) σ19) rfl (by decide) (Nat.le_of_ble_eq_true rfl) rfl (fun r22 σ21 => ?_)
    refine ab_aload_n hκ dX6_digest_68 rfl ?_
    refine ab_iload_n hκ dX6_digest_69 rfl ?_
    refine ab_iconst (v := 1) hκ dX6_digest_70 rfl ?_
    refine ab_cVi (vs := [.int x18, .int 1]) (st := [.long r22]) hκ dX6_digest_71 kl_RX6_308 ki_X6_at kv_X6_at (sy_o6 rfl) rfl rfl (m6_at_ok x18 1 σ21) rfl (by decide) (Nat.le_of_ble_eq_true rfl) rfl (fun r24 σ23 => ?_)
    refine ab_i2l hκ dX6_digest_74 ?_
    refine ab_cSl (vs := [.long r22, .long (Int32.toInt64 r24)]) (st := []) hκ dX6_digest_75 kl_RX6_301 ki_X6_mix kv_X6_mix (m6_mix_ok r22 (Int32.toInt64 r24) σ23) rfl (by decide) (Nat.le_of_ble_eq_true rfl) rfl (fun r26 σ25 => ?_)
    refine ab_aload_n hκ dX6_digest_78 rfl ?_
    refine ab_iload_n hκ dX6_digest_79 rfl ?_
    refine ab_iconst (v := 2) hκ dX6_digest_80 rfl ?_
    refine ab_cVi (vs := [.int x18, .int 2]) (st := [.long r26]) hκ dX6_digest_81 kl_RX6_308 ki_X6_at kv_X6_at (sy_o6 rfl) rfl rfl (m6_at_ok x18 2 σ25) rfl (by decide) (Nat.le_of_ble_eq_true rfl) rfl (fun r28 σ27 => ?_)
    refine ab_i2l hκ dX6_digest_84 ?_
    refine ab_cSl (vs := [.long r26, .long (Int32.toInt64 r28)]) (st := []) hκ dX6_digest_85 kl_RX6_301 ki_X6_mix kv_X6_mix (m6_mix_ok r26 (Int32.toInt64 r28) σ27) rfl (by decide) (Nat.le_of_ble_eq_true rfl) rfl (fun r30 σ29 => ?_)
    refine ab_lstore_n (lv' := [sy_vr 0, sy_vl r30, none, sy_vi x18]) hκ dX6_digest_88 rfl (by decide) rfl ?_
    refine ab_iinc (v := (x18 + 1)) (lv' := [sy_vr 0, sy_vl r30, none, sy_vi (x18 + 1)]) hκ dX6_digest_89 rfl rfl (by decide) rfl ?_
    refine ab_goto (tgt := 51) hκ dX6_digest_92 rfl ?_
    exact hK51 r30 (x18 + 1) σ29
theorem m6_digest_L51_ok {κ : Kx} (hκ : Gd κ cX6_digest 4 RX6 (some .long) 7) {E51_95 : Int64 → St → Option (Int64 × St)} (hE51_95 : ∀ (y1 : Int64) (σ : St), Ab sy_vl κ 95 [sy_vr 0, sy_vl y1, none, none] [] σ (E51_95 y1 σ)) : ∀ (n : Nat) (x17 : Int64) (x18 : Int32) (σ : St), Ab sy_vl κ 51 [sy_vr 0, sy_vl x17, none, sy_vi x18] [] σ (m6_digest_L51  E51_95 n x17 x18 σ) := by
  intro n
  induction n with
  | zero => intros; exact ab_none
  | succ n ih => exact fun x17 x18 σ => m6_digest_L51b_ok hκ   ih hE51_95 x17 x18 σ
def m6_digest (σ : St) : Option (Int64 × St) := m6_digest_L6 (fun y7 σ8 => sy_bd (m6_fault 0 σ8) (fun r10 σ9 => sy_bd (m6_mix y7 (Int32.toInt64 r10) σ9) (fun r12 σ11 => sy_bd (m6_fault 1 σ11) (fun r14 σ13 => sy_bd (m6_mix r12 (Int32.toInt64 r14) σ13) (fun r16 σ15 => m6_digest_L51 (fun y31 σ32 => sy_bd (m6_mixNotes y31 σ32) (fun r34 σ33 => sy_bd (m6_mixPlayers r34 σ33) (fun r36 σ35 => sy_bd (m6_sum 0 σ35) (fun r38 σ37 => sy_bd (m6_mix r36 (Int32.toInt64 r38) σ37) (fun r40 σ39 => sy_bd (m6_sum 1 σ39) (fun r42 σ41 => sy_bd (m6_mix r40 (Int32.toInt64 r42) σ41) (fun r44 σ43 => sy_bd (m6_sum 2 σ43) (fun r46 σ45 => sy_bd (m6_mix r44 (Int32.toInt64 r46) σ45) (fun r48 σ47 => sy_bd (m6_flat σ47) (fun r50 σ49 => sy_bd (m6_mix r48 (Int32.toInt64 r50) σ49) (fun r52 σ51 => sy_bd (m6_silent σ51) (fun r54 σ53 => sy_bd (m6_mix r52 (Int32.toInt64 r54) σ53) (fun r56 σ55 => sy_bd (m6_greedy σ55) (fun r58 σ57 => sy_bd (m6_mix r56 (Int32.toInt64 r58) σ57) (fun r60 σ59 => sy_bd (m6_fill 0 σ59) (fun r62 σ61 => sy_bd (m6_mix r60 (Int32.toInt64 r62) σ61) (fun r64 σ63 => sy_bd (m6_fill 1 σ63) (fun r66 σ65 => sy_bd (m6_mix r64 (Int32.toInt64 r66) σ65) (fun r68 σ67 => sy_bd (m6_swap 0 σ67) (fun r70 σ69 => sy_bd (m6_mix r68 (Int32.toInt64 r70) σ69) (fun r72 σ71 => sy_bd (m6_swap 1 σ71) (fun r74 σ73 => sy_bd (m6_mix r72 (Int32.toInt64 r74) σ73) (fun r76 σ75 => sy_bd (m6_swap 2 σ75) (fun r78 σ77 => sy_bd (m6_mix r76 (Int32.toInt64 r78) σ77) (fun r80 σ79 => sy_bd (m6_hold 0 σ79) (fun r82 σ81 => sy_bd (m6_mix r80 (Int32.toInt64 r82) σ81) (fun r84 σ83 => sy_bd (m6_hold 1 σ83) (fun r86 σ85 => sy_bd (m6_mix r84 (Int32.toInt64 r86) σ85) (fun r88 σ87 => sy_bd (m6_spare (-1) σ87) (fun r90 σ89 => sy_bd (m6_mix r88 (Int32.toInt64 r90) σ89) (fun r92 σ91 => sy_bd (m6_spare 0 σ91) (fun r94 σ93 => sy_bd (m6_mix r92 (Int32.toInt64 r94) σ93) (fun r96 σ95 => sy_bd (m6_never σ95) (fun r98 σ97 => sy_bd (m6_mix r96 (Int32.toInt64 r98) σ97) (fun r100 σ99 => sy_bd (m6_years 7 12 0 σ99) (fun r102 σ101 => sy_bd (m6_mix r100 (Int32.toInt64 r102) σ101) (fun r104 σ103 => sy_bd (m6_years 7 12 1 σ103) (fun r106 σ105 => sy_bd (m6_mix r104 (Int32.toInt64 r106) σ105) (fun r108 σ107 => some (r108, σ107)))))))))))))))))))))))))))))))))))))))) sy_FU r16 0 σ15))))) sy_FU 17 0 σ
set_option maxRecDepth 100000 in
set_option maxHeartbeats 4000000 in
theorem m6_digest_ok (σ : St) : Cok sy_vl yX6_digest cX6_digest 4 (some .long) 7 [.ref 0] σ (m6_digest σ) := by
  refine cok_of (own := RX6) (by decide) rfl (fun ad => Nat.le_of_ble_eq_true rfl) (fun κ hκ => ?_)
  show Ab sy_vl κ 0 [sy_vr 0, none, none, none] [] σ (m6_digest σ)
  unfold m6_digest
  refine ab_ldc2 hκ dX6_digest_0 kn_RX6_296 ?_
  refine ab_lstore_n (lv' := [sy_vr 0, sy_vl 17, none, none]) hκ dX6_digest_3 rfl (by decide) rfl ?_
  refine ab_iconst (v := 0) hκ dX6_digest_4 rfl ?_
  refine ab_istore_n (lv' := [sy_vr 0, sy_vl 17, none, sy_vi 0]) hκ dX6_digest_5 rfl (by decide) rfl ?_
  refine m6_digest_L6_ok hκ ?_ _ _ _ _
  · intro y7 σ8
    refine ab_lload_n hκ dX6_digest_29 rfl ?_
    refine ab_aload_n hκ dX6_digest_30 rfl ?_
    refine ab_iconst (v := 0) hκ dX6_digest_31 rfl ?_
    refine ab_cVi (vs := [.int 0]) (st := [.long y7]) hκ dX6_digest_32 kl_RX6_305 ki_X6_fault kv_X6_fault (sy_o6 rfl) rfl rfl (m6_fault_ok 0 σ8) rfl (by decide) (Nat.le_of_ble_eq_true rfl) rfl (fun r10 σ9 => ?_)
    refine ab_i2l hκ dX6_digest_35 ?_
    refine ab_cSl (vs := [.long y7, .long (Int32.toInt64 r10)]) (st := []) hκ dX6_digest_36 kl_RX6_301 ki_X6_mix kv_X6_mix (m6_mix_ok y7 (Int32.toInt64 r10) σ9) rfl (by decide) (Nat.le_of_ble_eq_true rfl) rfl (fun r12 σ11 => ?_)
    refine ab_aload_n hκ dX6_digest_39 rfl ?_
    refine ab_iconst (v := 1) hκ dX6_digest_40 rfl ?_
    refine ab_cVi (vs := [.int 1]) (st := [.long r12]) hκ dX6_digest_41 kl_RX6_305 ki_X6_fault kv_X6_fault (sy_o6 rfl) rfl rfl (m6_fault_ok 1 σ11) rfl (by decide) (Nat.le_of_ble_eq_true rfl) rfl (fun r14 σ13 => ?_)
    refine ab_i2l hκ dX6_digest_44 ?_
    refine ab_cSl (vs := [.long r12, .long (Int32.toInt64 r14)]) (st := []) hκ dX6_digest_45 kl_RX6_301 ki_X6_mix kv_X6_mix (m6_mix_ok r12 (Int32.toInt64 r14) σ13) rfl (by decide) (Nat.le_of_ble_eq_true rfl) rfl (fun r16 σ15 => ?_)
    refine ab_lstore_n (lv' := [sy_vr 0, sy_vl r16, none, none]) hκ dX6_digest_48 rfl (by decide) rfl ?_
    refine ab_iconst (v := 0) hκ dX6_digest_49 rfl ?_
    refine ab_istore_n (lv' := [sy_vr 0, sy_vl r16, none, sy_vi 0]) hκ dX6_digest_50 rfl (by decide) rfl ?_
    refine m6_digest_L51_ok hκ ?_ _ _ _ _
    · intro y31 σ32
      refine ab_aload_n hκ dX6_digest_95 rfl ?_
      refine ab_aload_n hκ dX6_digest_96 rfl ?_
      refine ab_lload_n hκ dX6_digest_97 rfl ?_
      refine ab_cVl (vs := [.long y31]) (st := [.ref 0]) hκ dX6_digest_98 kl_RX6_311 ki_X6_mixNotes kv_X6_mixNotes (sy_o6 rfl) rfl rfl (m6_mixNotes_ok y31 σ32) rfl (by decide) (Nat.le_of_ble_eq_true rfl) rfl (fun r34 σ33 => ?_)
      refine ab_cVl (vs := [.long r34]) (st := []) hκ dX6_digest_101 kl_RX6_315 ki_X6_mixPlayers kv_X6_mixPlayers (sy_o6 rfl) rfl rfl (m6_mixPlayers_ok r34 σ33) rfl (by decide) (Nat.le_of_ble_eq_true rfl) rfl (fun r36 σ35 => ?_)
      refine ab_lstore_n (lv' := [sy_vr 0, sy_vl r36, none, none]) hκ dX6_digest_104 rfl (by decide) rfl ?_
      refine ab_lload_n hκ dX6_digest_105 rfl ?_
      refine ab_aload_n hκ dX6_digest_106 rfl ?_
      refine ab_iconst (v := 0) hκ dX6_digest_107 rfl ?_
      refine ab_cVi (vs := [.int 0]) (st := [.long r36]) hκ dX6_digest_108 kl_RX6_318 ki_X6_sum kv_X6_sum (sy_o6 rfl) rfl rfl (m6_sum_ok 0 σ35) rfl (by decide) (Nat.le_of_ble_eq_true rfl) rfl (fun r38 σ37 => ?_)
      refine ab_i2l hκ dX6_digest_111 ?_
      refine ab_cSl (vs := [.long r36, .long (Int32.toInt64 r38)]) (st := []) hκ dX6_digest_112 kl_RX6_301 ki_X6_mix kv_X6_mix (m6_mix_ok r36 (Int32.toInt64 r38) σ37) rfl (by decide) (Nat.le_of_ble_eq_true rfl) rfl (fun r40 σ39 => ?_)
      refine ab_aload_n hκ dX6_digest_115 rfl ?_
      refine ab_iconst (v := 1) hκ dX6_digest_116 rfl ?_
      refine ab_cVi (vs := [.int 1]) (st := [.long r40]) hκ dX6_digest_117 kl_RX6_318 ki_X6_sum kv_X6_sum (sy_o6 rfl) rfl rfl (m6_sum_ok 1 σ39) rfl (by decide) (Nat.le_of_ble_eq_true rfl) rfl (fun r42 σ41 => ?_)
      refine ab_i2l hκ dX6_digest_120 ?_
      refine ab_cSl (vs := [.long r40, .long (Int32.toInt64 r42)]) (st := []) hκ dX6_digest_121 kl_RX6_301 ki_X6_mix kv_X6_mix (m6_mix_ok r40 (Int32.toInt64 r42) σ41) rfl (by decide) (Nat.le_of_ble_eq_true rfl) rfl (fun r44 σ43 => ?_)
      refine ab_aload_n hκ dX6_digest_124 rfl ?_
      refine ab_iconst (v := 2) hκ dX6_digest_125 rfl ?_
      refine ab_cVi (vs := [.int 2]) (st := [.long r44]) hκ dX6_digest_126 kl_RX6_318 ki_X6_sum kv_X6_sum (sy_o6 rfl) rfl rfl (m6_sum_ok 2 σ43) rfl (by decide) (Nat.le_of_ble_eq_true rfl) rfl (fun r46 σ45 => ?_)
      refine ab_i2l hκ dX6_digest_129 ?_
      refine ab_cSl (vs := [.long r44, .long (Int32.toInt64 r46)]) (st := []) hκ dX6_digest_130 kl_RX6_301 ki_X6_mix kv_X6_mix (m6_mix_ok r44 (Int32.toInt64 r46) σ45) rfl (by decide) (Nat.le_of_ble_eq_true rfl) rfl (fun r48 σ47 => ?_)
      refine ab_lstore_n (lv' := [sy_vr 0, sy_vl r48, none, none]) hκ dX6_digest_133 rfl (by decide) rfl ?_
      refine ab_lload_n hκ dX6_digest_134 rfl ?_
      refine ab_aload_n hκ dX6_digest_135 rfl ?_
      refine ab_cVi (vs := []) (st := [.long r48]) hκ dX6_digest_136 kl_RX6_321 ki_X6_flat kv_X6_flat (sy_o6 rfl) rfl rfl (m6_flat_ok σ47) rfl (by decide) (Nat.le_of_ble_eq_true rfl) rfl (fun r50 σ49 => ?_)
      refine ab_i2l hκ dX6_digest_139 ?_
      refine ab_cSl (vs := [.long r48, .long (Int32.toInt64 r50)]) (st := []) hκ dX6_digest_140 kl_RX6_301 ki_X6_mix kv_X6_mix (m6_mix_ok r48 (Int32.toInt64 r50) σ49) rfl (by decide) (Nat.le_of_ble_eq_true rfl) rfl (fun r52 σ51 => ?_)
      refine ab_aload_n hκ dX6_digest_143 rfl ?_
      refine ab_cVi (vs := []) (st := [.long r52]) hκ dX6_digest_144 kl_RX6_324 ki_X6_silent kv_X6_silent (sy_o6 rfl) rfl rfl (m6_silent_ok σ51) rfl (by decide) (Nat.le_of_ble_eq_true rfl) rfl (fun r54 σ53 => ?_)
      refine ab_i2l hκ dX6_digest_147 ?_
      refine ab_cSl (vs := [.long r52, .long (Int32.toInt64 r54)]) (st := []) hκ dX6_digest_148 kl_RX6_301 ki_X6_mix kv_X6_mix (m6_mix_ok r52 (Int32.toInt64 r54) σ53) rfl (by decide) (Nat.le_of_ble_eq_true rfl) rfl (fun r56 σ55 => ?_)
      refine ab_aload_n hκ dX6_digest_151 rfl ?_
      refine ab_cVi (vs := []) (st := [.long r56]) hκ dX6_digest_152 kl_RX6_327 ki_X6_greedy kv_X6_greedy (sy_o6 rfl) rfl rfl (m6_greedy_ok σ55) rfl (by decide) (Nat.le_of_ble_eq_true rfl) rfl (fun r58 σ57 => ?_)
      refine ab_i2l hκ dX6_digest_155 ?_
      refine ab_cSl (vs := [.long r56, .long (Int32.toInt64 r58)]) (st := []) hκ dX6_digest_156 kl_RX6_301 ki_X6_mix kv_X6_mix (m6_mix_ok r56 (Int32.toInt64 r58) σ57) rfl (by decide) (Nat.le_of_ble_eq_true rfl) rfl (fun r60 σ59 => ?_)
      refine ab_lstore_n (lv' := [sy_vr 0, sy_vl r60, none, none]) hκ dX6_digest_159 rfl (by decide) rfl ?_
      refine ab_lload_n hκ dX6_digest_160 rfl ?_
      refine ab_aload_n hκ dX6_digest_161 rfl ?_
      refine ab_iconst (v := 0) hκ dX6_digest_162 rfl ?_
      refine ab_cVi (vs := [.int 0]) (st := [.long r60]) hκ dX6_digest_163 kl_RX6_330 ki_X6_fill kv_X6_fill (sy_o6 rfl) rfl rfl (m6_fill_ok 0 σ59) rfl (by decide) (Nat.le_of_ble_eq_true rfl) rfl (fun r62 σ61 => ?_)
      refine ab_i2l hκ dX6_digest_166 ?_
      refine ab_cSl (vs := [.long r60, .long (Int32.toInt64 r62)]) (st := []) hκ dX6_digest_167 kl_RX6_301 ki_X6_mix kv_X6_mix (m6_mix_ok r60 (Int32.toInt64 r62) σ61) rfl (by decide) (Nat.le_of_ble_eq_true rfl) rfl (fun r64 σ63 => ?_)
      refine ab_aload_n hκ dX6_digest_170 rfl ?_
      refine ab_iconst (v := 1) hκ dX6_digest_171 rfl ?_
      refine ab_cVi (vs := [.int 1]) (st := [.long r64]) hκ dX6_digest_172 kl_RX6_330 ki_X6_fill kv_X6_fill (sy_o6 rfl) rfl rfl (m6_fill_ok 1 σ63) rfl (by decide) (Nat.le_of_ble_eq_true rfl) rfl (fun r66 σ65 => ?_)
      refine ab_i2l hκ dX6_digest_175 ?_
      refine ab_cSl (vs := [.long r64, .long (Int32.toInt64 r66)]) (st := []) hκ dX6_digest_176 kl_RX6_301 ki_X6_mix kv_X6_mix (m6_mix_ok r64 (Int32.toInt64 r66) σ65) rfl (by decide) (Nat.le_of_ble_eq_true rfl) rfl (fun r68 σ67 => ?_)
      refine ab_lstore_n (lv' := [sy_vr 0, sy_vl r68, none, none]) hκ dX6_digest_179 rfl (by decide) rfl ?_
      refine ab_lload_n hκ dX6_digest_180 rfl ?_
      refine ab_aload_n hκ dX6_digest_181 rfl ?_
      refine ab_iconst (v := 0) hκ dX6_digest_182 rfl ?_
      refine ab_cVi (vs := [.int 0]) (st := [.long r68]) hκ dX6_digest_183 kl_RX6_333 ki_X6_swap kv_X6_swap (sy_o6 rfl) rfl rfl (m6_swap_ok 0 σ67) rfl (by decide) (Nat.le_of_ble_eq_true rfl) rfl (fun r70 σ69 => ?_)
      refine ab_i2l hκ dX6_digest_186 ?_
      refine ab_cSl (vs := [.long r68, .long (Int32.toInt64 r70)]) (st := []) hκ dX6_digest_187 kl_RX6_301 ki_X6_mix kv_X6_mix (m6_mix_ok r68 (Int32.toInt64 r70) σ69) rfl (by decide) (Nat.le_of_ble_eq_true rfl) rfl (fun r72 σ71 => ?_)
      refine ab_aload_n hκ dX6_digest_190 rfl ?_
      refine ab_iconst (v := 1) hκ dX6_digest_191 rfl ?_
      refine ab_cVi (vs := [.int 1]) (st := [.long r72]) hκ dX6_digest_192 kl_RX6_333 ki_X6_swap kv_X6_swap (sy_o6 rfl) rfl rfl (m6_swap_ok 1 σ71) rfl (by decide) (Nat.le_of_ble_eq_true rfl) rfl (fun r74 σ73 => ?_)
      refine ab_i2l hκ dX6_digest_195 ?_
      refine ab_cSl (vs := [.long r72, .long (Int32.toInt64 r74)]) (st := []) hκ dX6_digest_196 kl_RX6_301 ki_X6_mix kv_X6_mix (m6_mix_ok r72 (Int32.toInt64 r74) σ73) rfl (by decide) (Nat.le_of_ble_eq_true rfl) rfl (fun r76 σ75 => ?_)
      refine ab_aload_n hκ dX6_digest_199 rfl ?_
      refine ab_iconst (v := 2) hκ dX6_digest_200 rfl ?_
      refine ab_cVi (vs := [.int 2]) (st := [.long r76]) hκ dX6_digest_201 kl_RX6_333 ki_X6_swap kv_X6_swap (sy_o6 rfl) rfl rfl (m6_swap_ok 2 σ75) rfl (by decide) (Nat.le_of_ble_eq_true rfl) rfl (fun r78 σ77 => ?_)
      refine ab_i2l hκ dX6_digest_204 ?_
      refine ab_cSl (vs := [.long r76, .long (Int32.toInt64 r78)]) (st := []) hκ dX6_digest_205 kl_RX6_301 ki_X6_mix kv_X6_mix (m6_mix_ok r76 (Int32.toInt64 r78) σ77) rfl (by decide) (Nat.le_of_ble_eq_true rfl) rfl (fun r80 σ79 => ?_)
      refine ab_lstore_n (lv' := [sy_vr 0, sy_vl r80, none, none]) hκ dX6_digest_208 rfl (by decide) rfl ?_
      refine ab_lload_n hκ dX6_digest_209 rfl ?_
      refine ab_aload_n hκ dX6_digest_210 rfl ?_
      refine ab_iconst (v := 0) hκ dX6_digest_211 rfl ?_
      refine ab_cVi (vs := [.int 0]) (st := [.long r80]) hκ dX6_digest_212 kl_RX6_336 ki_X6_hold kv_X6_hold (sy_o6 rfl) rfl rfl (m6_hold_ok 0 σ79) rfl (by decide) (Nat.le_of_ble_eq_true rfl) rfl (fun r82 σ81 => ?_)
      refine ab_i2l hκ dX6_digest_215 ?_
      refine ab_cSl (vs := [.long r80, .long (Int32.toInt64 r82)]) (st := []) hκ dX6_digest_216 kl_RX6_301 ki_X6_mix kv_X6_mix (m6_mix_ok r80 (Int32.toInt64 r82) σ81) rfl (by decide) (Nat.le_of_ble_eq_true rfl) rfl (fun r84 σ83 => ?_)
      refine ab_aload_n hκ dX6_digest_219 rfl ?_
      refine ab_iconst (v := 1) hκ dX6_digest_220 rfl ?_
      refine ab_cVi (vs := [.int 1]) (st := [.long r84]) hκ dX6_digest_221 kl_RX6_336 ki_X6_hold kv_X6_hold (sy_o6 rfl) rfl rfl (m6_hold_ok 1 σ83) rfl (by decide) (Nat.le_of_ble_eq_true rfl) rfl (fun r86 σ85 => ?_)
      refine ab_i2l hκ dX6_digest_224 ?_
      refine ab_cSl (vs := [.long r84, .long (Int32.toInt64 r86)]) (st := []) hκ dX6_digest_225 kl_RX6_301 ki_X6_mix kv_X6_mix (m6_mix_ok r84 (Int32.toInt64 r86) σ85) rfl (by decide) (Nat.le_of_ble_eq_true rfl) rfl (fun r88 σ87 => ?_)
      refine ab_lstore_n (lv' := [sy_vr 0, sy_vl r88, none, none]) hκ dX6_digest_228 rfl (by decide) rfl ?_
      refine ab_lload_n hκ dX6_digest_229 rfl ?_
      refine ab_aload_n hκ dX6_digest_230 rfl ?_
      refine ab_iconst (v := (-1)) hκ dX6_digest_231 rfl ?_
      refine ab_cVi (vs := [.int (-1)]) (st := [.long r88]) hκ dX6_digest_232 kl_RX6_339 ki_X6_spare kv_X6_spare (sy_o6 rfl) rfl rfl (m6_spare_ok (-1) σ87) rfl (by decide) (Nat.le_of_ble_eq_true rfl) rfl (fun r90 σ89 => ?_)
      refine ab_i2l hκ dX6_digest_235 ?_
      refine ab_cSl (vs := [.long r88, .long (Int32.toInt64 r90)]) (st := []) hκ dX6_digest_236 kl_RX6_301 ki_X6_mix kv_X6_mix (m6_mix_ok r88 (Int32.toInt64 r90) σ89) rfl (by decide) (Nat.le_of_ble_eq_true rfl) rfl (fun r92 σ91 => ?_)
      refine ab_aload_n hκ dX6_digest_239 rfl ?_
      refine ab_iconst (v := 0) hκ dX6_digest_240 rfl ?_
      refine ab_cVi (vs := [.int 0]) (st := [.long r92]) hκ dX6_digest_241 kl_RX6_339 ki_X6_spare kv_X6_spare (sy_o6 rfl) rfl rfl (m6_spare_ok 0 σ91) rfl (by decide) (Nat.le_of_ble_eq_true rfl) rfl (fun r94 σ93 => ?_)
      refine ab_i2l hκ dX6_digest_244 ?_
      refine ab_cSl (vs := [.long r92, .long (Int32.toInt64 r94)]) (st := []) hκ dX6_digest_245 kl_RX6_301 ki_X6_mix kv_X6_mix (m6_mix_ok r92 (Int32.toInt64 r94) σ93) rfl (by decide) (Nat.le_of_ble_eq_true rfl) rfl (fun r96 σ95 => ?_)
      refine ab_lstore_n (lv' := [sy_vr 0, sy_vl r96, none, none]) hκ dX6_digest_248 rfl (by decide) rfl ?_
      refine ab_lload_n hκ dX6_digest_249 rfl ?_
      refine ab_aload_n hκ dX6_digest_250 rfl ?_
      refine ab_cVi (vs := []) (st := [.long r96]) hκ dX6_digest_251 kl_RX6_342 ki_X6_never kv_X6_never (sy_o6 rfl) rfl rfl (m6_never_ok σ95) rfl (by decide) (Nat.le_of_ble_eq_true rfl) rfl (fun r98 σ97 => ?_)
      refine ab_i2l hκ dX6_digest_254 ?_
      refine ab_cSl (vs := [.long r96, .long (Int32.toInt64 r98)]) (st := []) hκ dX6_digest_255 kl_RX6_301 ki_X6_mix kv_X6_mix (m6_mix_ok r96 (Int32.toInt64 r98) σ97) rfl (by decide) (Nat.le_of_ble_eq_true rfl) rfl (fun r100 σ99 => ?_)
      refine ab_lstore_n (lv' := [sy_vr 0, sy_vl r100, none, none]) hκ dX6_digest_258 rfl (by decide) rfl ?_
      refine ab_lload_n hκ dX6_digest_259 rfl ?_
      refine ab_aload_n hκ dX6_digest_260 rfl ?_
      refine ab_bipush (v := 7) hκ dX6_digest_261 rfl ?_
      refine ab_bipush (v := 12) hκ dX6_digest_263 rfl ?_
      refine ab_iconst (v := 0) hκ dX6_digest_265 rfl ?_
      refine ab_cVi (vs := [.int 7, .int 12, .int 0]) (st := [.long r100]) hκ dX6_digest_266 kl_RX6_345 ki_X6_years kv_X6_years (sy_o6 rfl) rfl rfl (m6_years_ok 7 12 0 σ99) rfl (by decide) (Nat.le_of_ble_eq_true rfl) rfl (fun r102 σ101 => ?_)
      refine ab_i2l hκ dX6_digest_269 ?_
      refine ab_cSl (vs := [.long r100, .long (Int32.toInt64 r102)]) (st := []) hκ dX6_digest_270 kl_RX6_301 ki_X6_mix kv_X6_mix (m6_mix_ok r100 (Int32.toInt64 r102) σ101) rfl (by decide) (Nat.le_of_ble_eq_true rfl) rfl (fun r104 σ103 => ?_)
      refine ab_aload_n hκ dX6_digest_273 rfl ?_
      refine ab_bipush (v := 7) hκ dX6_digest_274 rfl ?_
      refine ab_bipush (v := 12) hκ dX6_digest_276 rfl ?_
      refine ab_iconst (v := 1) hκ dX6_digest_278 rfl ?_
      refine ab_cVi (vs := [.int 7, .int 12, .int 1]) (st := [.long r104]) hκ dX6_digest_279 kl_RX6_345 ki_X6_years kv_X6_years (sy_o6 rfl) rfl rfl (m6_years_ok 7 12 1 σ103) rfl (by decide) (Nat.le_of_ble_eq_true rfl) rfl (fun r106 σ105 => ?_)
      refine ab_i2l hκ dX6_digest_282 ?_
      refine ab_cSl (vs := [.long r104, .long (Int32.toInt64 r106)]) (st := []) hκ dX6_digest_283 kl_RX6_301 ki_X6_mix kv_X6_mix (m6_mix_ok r104 (Int32.toInt64 r106) σ105) rfl (by decide) (Nat.le_of_ble_eq_true rfl) rfl (fun r108 σ107 => ?_)
      exact ab_lret hκ dX6_digest_286
