/-! ===== promise 37: the reference's ===== -/
abbrev MB {α : Type} (r : Option (α × St)) (σ : St) (x : α) (T : Td) : Prop := Ok r (fun y σ' => y = x ∧ mdF σ σ' ∧ isMT σ' T ∧ isM σ' (sp_told T))
theorem mB_Fr {α : Type} {r : Option (α × St)} {σ : St} {x : α} {T : Td} (hM : isMT σ T) (hB : isM σ (sp_told T)) (h : Ok r (fun y σ' => y = x ∧ mFr σ σ')) : MB r σ x T :=
  ok_mono h (fun y σ1 g => ⟨g.1, g.2.wk.md, g.2.wk.MT hM, g.2.isM hB⟩)
theorem mB_eq {α : Type} {r : Option (α × St)} {σ : St} {x : α} {T : Td} (hM : isMT σ T) (hB : isM σ (sp_told T)) (h : r = some (x, σ)) : MB r σ x T := by
  rw [h]
  exact ok_some ⟨rfl, mdF.rf, hM, hB⟩
theorem mgI {σ0 σ : St} {T : Td} {h y : Int64} {x : Int32} {r : Option (Int32 × St)} {f : Int64 → St → Option (Int64 × St)} (h0 : mdF σ0 σ) (hr : MB r σ x T) (k : ∀ σ1, mdF σ0 σ1 → isMT σ1 T → isM σ1 (sp_told T) → MB (f (mxI h x) σ1) σ0 y T) : MB (sy_bd r (fun r4 σ3 => sy_lt ((31 * h) + Int32.toInt64 r4) (fun v5 => f v5 σ3))) σ0 y T :=
  ok_bd hr (fun x' σ1 g => by
    obtain ⟨rfl, g1, g2, g3⟩ := g
    exact k σ1 (h0.tr g1) g2 g3)
theorem mgE {σ0 : St} {σ : St} {T : Td} {h y : Int64} {x : Int32} {r : Option (Int32 × St)} {f : Int64 → St → Option (Int64 × St)} (e : r = some (x, σ)) (k : MB (f (mxI h x) σ) σ0 y T) : MB (sy_bd r (fun r4 σ3 => sy_lt ((31 * h) + Int32.toInt64 r4) (fun v5 => f v5 σ3))) σ0 y T := by
  rw [e]
  exact k
/-! the answers out of what is worked out -/
theorem m7_atBy_eq {σ : St} {T : Td} {b : Nat} {j : Int32} (hR : mRun σ (sp_told T)) (hb : b < 24) (hj : 0 ≤ j ∧ j ≤ 2) : m7_atBy (nI b) j σ = some (an_at T (nI b) j, σ) := by
  obtain ⟨q1, q2, q3⟩ := hR.2.2.2.2.2.2 b hb
  unfold m7_atBy an_at
  rw [if_pos (show (0 ≤ nI b ∧ nI b ≤ 23) ∧ 0 ≤ j ∧ j ≤ 2 from And.intro (nI_inR (n := 23) (by omega) (by omega)) hj), show sy_ix (nI b) = b from nI_clamp (by omega), gd_nI (by omega) (by omega), gd_nI (by omega) (by omega), gd_nI (by omega) (by omega), q1, q2, q3]
  by_cases c0 : j = 0
  · rw [if_pos c0, if_pos c0]
  · rw [if_neg c0, if_neg c0]
    by_cases c1 : j = 1
    · rw [if_pos c1, if_pos c1]
    · rw [if_neg c1, if_neg c1]
theorem m7_takesBy_eq {σ : St} {T : Td} {k : Nat} {j : Int32} (hT : okT T) (hR : mRun σ (sp_told T)) (hk : k < bP (sp_told T)) (hj : 0 ≤ j ∧ j ≤ 2) : m7_takesBy (nI k) j σ = some (an_takes T (nI k) j, σ) := by
  have hP := (okB_told hT).1
  obtain ⟨q1, q2, q3⟩ := hR.2.2.2.2.1 k (by omega)
  unfold m7_takesBy an_takes
  rw [if_pos (And.intro (nI_inP (by omega) hk) hj), show sy_ix (nI k) = k from nI_clamp (by omega), gd_nI (by omega) (by omega), gd_nI (by omega) (by omega), gd_nI (by omega) (by omega), q1, q2, q3]
  by_cases c0 : j = 0
  · rw [if_pos c0, if_pos c0]
  · rw [if_neg c0, if_neg c0]
    by_cases c1 : j = 1
    · rw [if_pos c1, if_pos c1]
    · rw [if_neg c1, if_neg c1]
theorem m7_noteBy_an {σ : St} {T : Td} {i w : Nat} (hT : okT T) (hB : isM σ (sp_told T)) (hi : i < 16) (hw : w < 2) : m7_noteBy (nI i) (nI w) σ = some (an_note T (nI i) (nI w), σ) := by
  have hN := (okB_told hT).2.1
  unfold m7_noteBy an_note
  rw [if_pos (show (0 ≤ nI i ∧ nI i ≤ 15) ∧ 0 ≤ nI w ∧ nI w ≤ 1 from And.intro (nI_inR (n := 15) (by omega) (by omega)) (nI_inR (n := 1) (by omega) (by omega))), hB.2.2.1, show sy_ix (nI i) = i from nI_clamp (by omega)]
  by_cases c : i < bN (sp_told T)
  · rw [if_neg (nI_ge c (by omega)), if_pos c, nI_2, nI_add, gd_nI (by omega) (by omega), show sy_ix (nI (2 * i + w)) = 2 * i + w from nI_clamp (by omega)]
    rcases (show w = 0 ∨ w = 1 by omega) with rfl | rfl
    · rw [if_pos (by rfl), Nat.add_zero, (hB.2.2.2.1 i c).1]
    · rw [if_neg (by decide), (hB.2.2.2.1 i c).2]
  · rw [if_pos (nI_le (by omega) (by omega)), if_neg c]
theorem m7_sumBy_an {σ : St} {T : Td} {j : Int32} (hT : okT T) (hB : isM σ (sp_told T)) (hR : mRun σ (sp_told T)) (hj : 0 ≤ j ∧ j ≤ 2) : m7_sumBy j σ = some (an_sum T j, σ) := by
  rw [m7_sumBy_eq hB (okB_told hT) hR]
  unfold an_sum
  rw [if_pos hj]
theorem m7_fillBy_sp {σ : St} {T : Td} {a : Int32} (hT : okT T) (b1 : isM σ (sp_told T)) (ca : 0 ≤ a ∧ a ≤ 1) : Ok (m7_fillBy a σ) (fun y σ' => y = an_fill T a ∧ mFr σ σ') := by
  unfold m7_fillBy an_fill
  rw [lt_eq, if_pos ca]
  refine m7_fill_loop (okB_told hT) (fun σ2 h2 => ?_) 99 0 (by omega) sy_FU (by show _ < 1000; omega) σ ⟨fun _ _ => rfl, fun _ _ _ => rfl⟩ ⟨bbag (sp_told T), b1⟩
  rw [lt_eq]
  have h3 : mFr σ (sy_sf σ2 61 11 (σ 61 11)) := ⟨fun k q => by rw [sf_n (by omega)]; exact h2.1 k q, fun j q => by
    by_cases e : j = 11
    · rw [e, sf_ss]
    · rw [sf_sn e]; exact h2.2 j q e⟩
  by_cases c0 : a = 0
  · rw [if_pos c0, if_pos c0]; exact ok_some ⟨rfl, h3⟩
  · rw [if_neg c0, if_neg c0]; exact ok_some ⟨rfl, h3⟩
theorem m7_holdBy_sp {σ : St} {T : Td} {a : Int32} (hT : okT T) (m1 : isMT σ T) (b1 : isM σ (sp_told T)) (ca : 0 ≤ a ∧ a ≤ 1) : Ok (m7_holdBy a σ) (fun y σ' => y = an_hold T a ∧ mFr σ σ') := by
  unfold m7_holdBy an_hold
  rw [if_pos ca]
  refine m7_hold_loop (okB_told hT) (fun σ2 h2 => ?_) 24 0 (by omega) sy_FU (by show _ < 1000; omega) σ ⟨fun _ _ => rfl, fun _ _ _ => rfl⟩ ⟨bod (sp_told T), b1⟩
  rw [lt_eq]
  have h3 : mFr σ (sy_sf σ2 61 15 (-1)) := ⟨fun k q => by rw [sf_n (by omega)]; exact h2.1 k q, fun j q => by
    by_cases e : j = 15
    · rw [e, sf_ss]; exact m1.2.1.2.2.2.2.symm
    · rw [sf_sn e]; exact h2.2 j q e⟩
  by_cases c0 : a = 0
  · rw [if_pos c0, if_pos c0]; exact ok_some ⟨rfl, h3⟩
  · rw [if_neg c0, if_neg c0]; exact ok_some ⟨rfl, h3⟩
theorem m7_spareBy_sp {σ1 : St} {T : Td} {a : Int32} (hT : okT T) (b1 : isM σ1 (sp_told T)) (ca : -1 ≤ a ∧ a ≤ 1) : Ok (m7_spareBy a σ1) (fun y σ' => y = an_spare T a ∧ mFr σ1 σ') := by
  have hE := (okB_told hT).2.2.1
  unfold an_spare
  rw [if_pos ca]
  unfold m7_spareBy
  refine ok_bd (m7_isSpared_sp b1 (okB_told hT) rfl 0) (fun y σ2 g => ?_)
  obtain ⟨rfl, g1⟩ := g
  have hS : isMp σ1 σ2 (sp_told T) := ⟨g1, g1.isM b1⟩
  rw [b01_0]
  by_cases c : sp_nm (sp_told T) 0
  · rw [if_pos c, sp_spare_0 c]
    by_cases c0 : a = -1
    · rw [if_pos c0, if_pos c0]; exact ok_some ⟨rfl, hS.1⟩
    · rw [if_neg c0, if_neg c0]
      refine ok_some ⟨?_, hS.1⟩
      by_cases c1 : a = 0
      · rw [if_pos c1]
      · rw [if_neg c1]
  · rw [if_neg c]
    refine m7_spare_1 (okB_told hT) rfl (fun σ3 u s3 q => ?_) (fun σ3 s3 q => ?_) _ 0 (Nat.zero_add _) sy_FU (by show _ < 1000; omega) rfl σ2 hS
    · rw [sp_spare_1 c q]
      by_cases c0 : a = -1
      · rw [if_pos c0, if_pos c0]; exact ok_some ⟨rfl, s3.1⟩
      · rw [if_neg c0, if_neg c0]
        by_cases c1 : a = 0
        · rw [if_pos c1, if_pos c1]; exact ok_some ⟨rfl, s3.1⟩
        · rw [if_neg c1, if_neg c1]; exact ok_some ⟨rfl, s3.1⟩
    · refine m7_spare_3 (okB_told hT) rfl (fun σ4 x s4 w => ?_) (fun σ4 s4 w => ?_) _ 0 (Nat.zero_add _) sy_FU (by show _ < 1000; omega) rfl σ3 s3
      · rw [sp_spare_2 c q w]
        by_cases c0 : a = -1
        · rw [if_pos c0, if_pos c0]; exact ok_some ⟨rfl, s4.1⟩
        · rw [if_neg c0, if_neg c0]
          by_cases c1 : a = 0
          · rw [if_pos c1, if_pos c1]; exact ok_some ⟨rfl, s4.1⟩
          · rw [if_neg c1, if_neg c1]; exact ok_some ⟨rfl, s4.1⟩
      · rw [sp_spare_3 c q w]
        refine ⟨?_, s4.1⟩
        by_cases c0 : a = -1
        · rw [if_pos c0]
        · rw [if_neg c0]
          by_cases c1 : a = 0
          · rw [if_pos c1]
          · rw [if_neg c1]
theorem m7_neverNow_sp {σ : St} {T : Td} (hT : okT T) (m1 : isMT σ T) (b1 : isM σ (sp_told T)) : Ok (m7_neverNow σ) (fun y σ' => y = sp_never T ∧ mFr σ σ') := by
  have hE := hT.2.2.1
  unfold m7_neverNow
  exact m7_never_loop hT m1 (okB_told hT) (tE T) 0 (Nat.zero_add _) sy_FU (by show _ < 1000; omega) σ ⟨fun _ _ => rfl, fun _ _ _ => rfl⟩ ⟨bg (sp_told T), b1⟩
/-! seats: those who sat down again -/
theorem m7_swap_out2 {σ0 : St} {B : Bd} {a1 : Int32} {Q : Int32 → St → Prop} {E : Int32 → Int32 → Int32 → St → Option (Int32 × St)} (ho : okB B) (hi : idS B) (hE : ∀ σ z, mS8 σ0 σ → isM σ B → enc (sp_sw2 (swf B) (bP B) (bP B)) z → Ok (E a1 z (sp_sw2 (swf B) (bP B) (bP B)).2.2 σ) Q) : ∀ (k a : Nat), a + k = bP B → ∀ n, k < n → ∀ σ z, mS8 σ0 σ → isM σ B → enc (sp_sw2 (swf B) (bP B) a) z → Ok (m7_swapBy_L7 E n a1 z (sp_sw2 (swf B) (bP B) a).2.2 (nI a) σ) Q := by
  have hP := ho.1
  intro k
  induction k with
  | zero =>
    intro a ha n hn σ z hF hB hT
    obtain ⟨n, rfl⟩ : ∃ m, n = m + 1 := ⟨n - 1, by omega⟩
    show Ok (m7_swapBy_L7b _ _ _ _ _ _ σ) _
    unfold m7_swapBy_L7b
    rw [hB.1, if_pos (nI_le (by omega) (by omega))]
    rw [show a = bP B by omega] at hT ⊢
    exact hE σ z hF hB hT
  | succ k ih =>
    intro a ha n hn σ z hF hB hT
    obtain ⟨n, rfl⟩ : ∃ m, n = m + 1 := ⟨n - 1, by omega⟩
    show Ok (m7_swapBy_L7b _ _ _ _ _ _ σ) _
    unfold m7_swapBy_L7b
    rw [hB.1, if_neg (nI_ge (by omega) (by omega)), lt_eq, nI_1]
    refine m7_swap_in ho hi (by omega) (sp_sw2 (swf B) (bP B) a) (fun σ1 z1 f1 b1 t1 => ?_) _ 0 (Nat.zero_add _) sy_FU (by show _ < 1000; omega) σ z hF hB hT
    rw [nI_1]
    exact ih (a + 1) (by omega) n (by omega) σ1 z1 f1 b1 t1
theorem m7_swapBy_sp {σ : St} {T : Td} {a : Int32} (hT : okT T) (m1 : isMT σ T) (b1 : isM σ (sp_told T)) (ca : 0 ≤ a ∧ a ≤ 2) : MB (m7_swapBy a σ) σ (an_swap T a) T := by
  have hP := (okB_told hT).1
  unfold m7_swapBy an_swap
  rw [if_pos ca]
  refine m7_swap_out2 (okB_told hT) (idS_told T) (fun σ2 z h2 b2 e2 => ?_) _ 0 (Nat.zero_add _) sy_FU (by show _ < 1000; omega) σ (-1) ⟨fun _ _ => rfl, fun _ _ => rfl⟩ b1 (Or.inl ⟨rfl, rfl⟩)
  have e2 : enc (sp_swap T) z := e2
  have t2 := h2.wk.MT m1
  have f2 := h2.wk.md
  show Ok (if z = -1 then _ else _) _
  rcases e2 with ⟨t0, rfl⟩ | ⟨u, w, hu, hw, t1, t3, rfl⟩
  · rw [if_pos rfl]
    refine ok_some ⟨?_, f2, t2, b2⟩
    rw [t0]
    by_cases c0 : a = 0
    · rw [if_pos c0]
    · rw [if_neg c0]
      by_cases c1 : a = 1
      · rw [if_pos c1]
      · rw [if_neg c1]
  · rw [if_neg (fun q => nI_pos (n := 16 * u + w) (by omega) (by rw [q]; decide)), dv_ne (by decide), dv_ne (by decide)]
    by_cases c0 : a = 0
    · rw [if_pos c0, if_pos c0]
      refine ok_some ⟨?_, f2, t2, b2⟩
      rw [t1, show nI (16 * u + w) / 16 = nI ((16 * u + w) / 16) from pk_div (d := 16) (by omega) (by omega) (by omega)]
      congr 1; omega
    · rw [if_neg c0, if_neg c0]
      by_cases c1 : a = 1
      · rw [if_pos c1, if_pos c1]
        refine ok_some ⟨?_, f2, t2, b2⟩
        rw [t3, show nI (16 * u + w) - nI (16 * u + w) / 16 * 16 = nI ((16 * u + w) % 16) from pk_rem (d := 16) (by omega) (by omega) (by omega)]
        congr 1; omega
      · rw [if_neg c1, if_neg c1]
        exact ok_some ⟨rfl, f2, t2, b2⟩
theorem m7_sortOf_loop2 {σ0 : St} {T : Td} (hT : okT T) (hM : isMT σ0 T) {B : Bd} (ho : okB B) {k : Nat} (hk : k < 11) (v0 : Int32) : ∀ (j i : Nat), i + j = 3 → ∀ n, j < n → ∀ σ, mW σ0 σ → (∀ w, isM (sy_sf σ 68 (2 * k) w) (sp_setSo B k w)) → Ok (m7_sortOf_L14 (fun y11 y12 y13 σ14 => sy_gd (2 * y11) 22 (sy_lt (sy_sf σ14 68 (sy_ix (2 * y11)) y12) (fun σ15 => some (y13, σ15)))) n (nI k) v0 (sp_bits (fun v => sp_fit T (sp_setSo B k (nI v))) i) (nI i) σ) (fun y σ' => y = sp_bits (fun v => sp_fit T (sp_setSo B k (nI v))) 3 ∧ mW σ0 σ' ∧ isM σ' (sp_setSo B k v0)) := by
  intro j
  induction j with
  | zero =>
    intro i hi n hn σ hW hB
    obtain ⟨n, rfl⟩ : ∃ m, n = m + 1 := ⟨n - 1, by omega⟩
    show Ok (m7_sortOf_L14b _ _ _ _ _ _ σ) _
    unfold m7_sortOf_L14b
    rw [if_pos (show (3 : Int32) ≤ nI i from nI_le (a := 3) (by omega) (by omega)), show i = 3 by omega]
    simp (disch := omega) only [nI_2, gd_nI, sy_ix, ix_nI, lt_eq]
    exact ok_some ⟨rfl, ⟨fun q z => by rw [sf_n (by omega)]; exact hW.1 q z, fun q z => by rw [sf_n (by omega)]; exact hW.2 q z⟩, hB v0⟩
  | succ j ih =>
    intro i hi n hn σ hW hB
    obtain ⟨n, rfl⟩ : ∃ m, n = m + 1 := ⟨n - 1, by omega⟩
    show Ok (m7_sortOf_L14b _ _ _ _ _ _ σ) _
    unfold m7_sortOf_L14b
    rw [if_neg (show ¬ (3 : Int32) ≤ nI i from nI_ge (b := 3) (by omega) (by omega))]
    simp (disch := omega) only [nI_2, gd_nI, sy_ix, ix_nI, lt_eq]
    have hB1 := hB (nI i)
    have hEar : isTl (sy_sf σ 68 (2 * k) (nI i)) T := by
      unfold isTl
      rw [sf_n (by omega), sf_n (by omega), hW.2 28 (by omega), hW.1 79 (by omega)]
      exact hM.2.2.1
    refine ok_bd (m7_isHeard_sp hT hEar hB1 (okB_so ho)) (fun y σ1 g => ?_)
    obtain ⟨rfl, g1, g2⟩ := g
    have hW1 : mW σ0 σ1 := ⟨fun q z => by rw [g1.1 q (by omega), sf_n (by omega)]; exact hW.1 q z, fun q z => by rw [g1.2 q z, sf_n (by omega)]; exact hW.2 q z⟩
    have hk' := ih (i + 1) (by omega) n (by omega) σ1 hW1 (fun w => by have := isM.so (k := k) (v := w) (g1.isM hB1); rwa [so_so] at this)
    rw [sp_bits_s] at hk'
    rw [b01_0, nI_1]
    by_cases q : sp_fit T (sp_setSo B k (nI i))
    · rw [if_pos q] at hk' ⊢
      exact hk'
    · rw [if_neg q] at hk' ⊢
      rw [Int32.or_zero]
      exact hk'
theorem m7_sortOf_sp2 {σ : St} {T : Td} (hT : okT T) (hM : isMT σ T) {B : Bd} (ho : okB B) (hB : isM σ B) {k : Nat} (hk : k < bP B) : Ok (m7_sortOf (nI k) σ) (fun y σ' => y = sp_bits (fun v => sp_fit T (sp_setSo B k (nI v))) 3 ∧ mW σ σ' ∧ isM σ' B) := by
  have hP := ho.1
  unfold m7_sortOf
  rw [nI_2, gd_nI (by omega) (by omega), lt_eq, show sy_ix (nI (2 * k)) = 2 * k from nI_clamp (by omega), (hB.2.1 k hk).1]
  refine ok_mono (m7_sortOf_loop2 hT hM ho (show k < 11 by omega) (bso B k) 3 0 (by omega) sy_FU (by show _ < 1000; omega) σ ⟨fun _ _ => rfl, fun _ _ => rfl⟩ (fun _ => isM.so hB)) (fun y σ1 g => ⟨g.1, g.2.1, ?_⟩)
  have h := g.2.2
  rw [sp_so_self] at h
  exact h
