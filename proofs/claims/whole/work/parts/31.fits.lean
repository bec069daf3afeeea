/-! ===== promises 25 and 26: what fits what was heard ===== -/
theorem m2_fits_loop {σ : St} {H N : Nat} {hn hi : Nat → Nat} {st : Nat → Int32} (hH : H ≤ 8) (hN : N ≤ 16) (h2 : σ 43 2 = nI H) (hh : ∀ j, j < H → σ 44 j = nI (hn j) ∧ σ 45 j = nI (hi j)) (hb : ∀ j, j < H → hn j < 16 ∧ hi j < 3) (hst : ∀ j, j < 16 → σ 38 j = st j) : ∀ (k i : Nat), i + k = H → ∀ n, k < n → (∀ j, j < i → hn j < N ∧ st (hn j) = nI (hi j)) → m2_fits_L2 43 34 n (nI N) (nI i) σ = some (b01 (∀ j, j < H → hn j < N ∧ st (hn j) = nI (hi j)), σ) := by
  intro k
  induction k with
  | zero =>
    intro i hi' n hn' g
    obtain ⟨n, rfl⟩ : ∃ m, n = m + 1 := ⟨n - 1, by omega⟩
    show m2_fits_L2b _ _ _ _ _ σ = _
    unfold m2_fits_L2b b01
    rw [h2, if_pos (nI_le (by omega) (by omega)), zg_1, if_pos (fun j hj => g j (by omega))]
  | succ k ih =>
    intro i hi' n hn' g
    obtain ⟨n, rfl⟩ : ∃ m, n = m + 1 := ⟨n - 1, by omega⟩
    have hk := ih (i + 1) (by omega) n (by omega)
    obtain ⟨e1, e2⟩ := hh i (by omega)
    obtain ⟨l1, l2⟩ := hb i (by omega)
    have e3 := hst (hn i) l1
    show m2_fits_L2b _ _ _ _ _ σ = _
    unfold m2_fits_L2b
    rw [h2, if_neg (nI_ge (by omega) (by omega))]
    simp (disch := omega) only [gd_nI, sy_ix, ix_nI, Nat.reduceAdd, nI_1, e1, e2, e3]
    by_cases c : N ≤ hn i
    · rw [if_pos (nI_le c (by omega)), zg_0]
      unfold b01
      rw [if_neg (fun q => by have := (q i (by omega)).1; omega)]
    · rw [if_neg (nI_ge (by omega) (by omega))]
      by_cases d : st (hn i) = nI (hi i)
      · rw [if_pos d]
        exact hk (fun j hj => by
          by_cases e : j = i
          · rw [e]; exact ⟨by omega, d⟩
          · exact g j (by omega))
      · rw [if_neg d, zg_0]
        unfold b01
        rw [if_neg (fun q => d (q i (by omega)).2)]
abbrev isEar (σ : St) (T : Td) : Prop := σ 43 2 = nI (tH T) ∧ ∀ j, j < tH T → σ 44 j = nI (tHn T j) ∧ σ 45 j = nI (tHi T j)
theorem m6_triedFits_sp {σ : St} {T : Td} {B : Bd} (hT : okT T) (hE : isEar σ T) (hB : isB σ 15 B) (ho : okB B) : Ok (m6_triedFits σ) (fun y σ' => y = b01 (sp_fit T B) ∧ cFr 34 σ σ' ∧ cRel σ' 34 24 (sp_run B 24)) := by
  unfold m6_triedFits
  refine ok_bd (m3_play_sp (by omega) hB ho) (fun _ σ1 g => ?_)
  have hB1 := cFr.kB (by omega) g.1 hB
  unfold m2_fits
  rw [hB1.2.2.1]
  have h8 := hT.2.2.2.2.1
  have e := m2_fits_loop (σ := σ1) (H := tH T) (N := bN B) (hn := tHn T) (hi := tHi T) (st := rSt (sp_run B 24)) hT.2.2.2.2.1 ho.2.1 (by rw [g.1 43 (by omega)]; exact hE.1) (fun j hj => by rw [g.1 44 (by omega), g.1 45 (by omega)]; exact hE.2 j hj) hT.2.2.2.2.2.1 (fun j hj => g.2.2.2.2.2.2.2.2.2.1 j hj) (tH T) 0 (Nat.zero_add _) sy_FU (by show _ < 1000; omega) (fun j hj => by omega)
  rw [show m2_fits_L2 43 34 sy_FU (nI (bN B)) 0 σ1 = _ from e, bd_some, b01_zg]
  exact ok_some ⟨rfl, g.1, g.2⟩
theorem sp_bits_s (p : Nat → Prop) [DecidablePred p] (n : Nat) : sp_bits p (n + 1) = if p n then sp_bits p n ||| sp_m1 n else sp_bits p n := rfl
theorem m6_never_loop {σ0 : St} {T : Td} (hT : okT T) (hC : isCT σ0 T) {B : Bd} (ho : okB B) : ∀ (k i : Nat), i + k = tE T → ∀ n, k < n → ∀ σ, cWk σ0 σ → exG σ B → Ok (m6_never_L15 (fun y8 σ9 => some (y8, σ9)) n (sp_bits (fun e => sp_fit T (sp_setG B (sp_m1 e))) i) (nI i) σ) (fun y σ' => y = sp_bits (fun e => sp_fit T (sp_setG B (sp_m1 e))) (tE T) ∧ cWk σ0 σ') := by
  have hE := hT.2.2.1
  have h10 := cs_E hC.1
  intro k
  induction k with
  | zero =>
    intro i hi n hn σ hF hB
    obtain ⟨n, rfl⟩ : ∃ m, n = m + 1 := ⟨n - 1, by omega⟩
    show Ok (m6_never_L15b _ _ _ _ σ) _
    unfold m6_never_L15b
    rw [hF 5 (by omega), h10, if_pos (nI_le (by omega) (by omega)), show i = tE T by omega]
    exact ok_some ⟨rfl, hF⟩
  | succ k ih =>
    intro i hi n hn σ hF hB
    obtain ⟨n, rfl⟩ : ∃ m, n = m + 1 := ⟨n - 1, by omega⟩
    show Ok (m6_never_L15b _ _ _ _ σ) _
    unfold m6_never_L15b
    rw [hF 5 (by omega), h10, if_neg (nI_ge (by omega) (by omega)), lt_eq]
    obtain ⟨x, hB⟩ := hB
    have hB1 : isB (sy_sf σ 15 13 (sp_m1 i)) 15 (sp_setG B (sp_m1 i)) := isB.g (B := sp_setG B x) (fun k a b => sf_n (by omega)) (fun j hj => sf_sn hj) (sf_ss _ _ _ _) hB
    have hEar : isEar (sy_sf σ 15 13 (sp_m1 i)) T := by
      unfold isEar
      rw [sf_n (by omega), sf_n (by omega), sf_n (by omega), hF 43 (by omega), hF 44 (by omega), hF 45 (by omega)]
      exact hC.1.2.2.2.1
    refine ok_bd (m6_triedFits_sp hT hEar hB1 (okB_g ho)) (fun y σ1 g => ?_)
    obtain ⟨rfl, g1, g2⟩ := g
    have hF1 : cWk σ0 σ1 := fun k z => by rw [g1 k (by omega), sf_n (by omega)]; exact hF k z
    have hk := ih (i + 1) (by omega) n (by omega) σ1 hF1 ⟨_, cFr.kB (by omega) g1 hB1⟩
    rw [sp_bits_s] at hk
    rw [b01_0, nI_1]
    by_cases c : sp_fit T (sp_setG B (sp_m1 i))
    · rw [if_pos c] at hk ⊢
      exact hk
    · rw [if_neg c] at hk ⊢
      exact hk
theorem cl_never {σ : St} {T : Td} (hT : okT T) (hC : isCT σ T) : CL (m6_never σ) σ (sp_never T) T := by
  have hE := hT.2.2.1
  unfold m6_never
  refine ok_bd (m0_become_sp hC.1.2.2.1 (okB_told hT)) (fun _ σ1 g => ?_)
  refine ok_mono (m6_never_loop hT hC (okB_told hT) (tE T) 0 (Nat.zero_add _) sy_FU (by show _ < 1000; omega) σ1 (fun k z => g.1 k (by omega)) ⟨bg (sp_told T), g.2⟩) (fun y σ2 q => ⟨q.1, q.2.cl, q.2.CT hC⟩)
/-! the reference's -/
theorem m7_isHeard_loop {σ : St} {H N : Nat} {hn hi : Nat → Nat} {st : Nat → Int32} (hH : H ≤ 8) (hN : N ≤ 16) (h2 : σ 61 28 = nI H) (h9 : σ 61 9 = nI N) (hh : ∀ j, j < H → σ 79 (2 * j) = nI (hn j) ∧ σ 79 (2 * j + 1) = nI (hi j)) (hb : ∀ j, j < H → hn j < 16 ∧ hi j < 3) (hst : ∀ j, j < N → σ 74 j = st j) : ∀ (k i : Nat), i + k = H → ∀ n, k < n → ∀ x : Int32, ((x = 1 ∧ ∀ j, j < i → hn j < N ∧ st (hn j) = nI (hi j)) ∨ (x = 0 ∧ ¬ ∀ j, j < H → hn j < N ∧ st (hn j) = nI (hi j))) → m7_isHeard_L8 (fun y6 σ7 => sy_zg y6 (some (y6, σ7))) n x (nI i) σ = some (b01 (∀ j, j < H → hn j < N ∧ st (hn j) = nI (hi j)), σ) := by
  intro k
  induction k with
  | zero =>
    intro i hi' n hn' x hx
    obtain ⟨n, rfl⟩ : ∃ m, n = m + 1 := ⟨n - 1, by omega⟩
    show m7_isHeard_L8b _ _ _ _ σ = _
    unfold m7_isHeard_L8b b01
    rw [h2, if_pos (nI_le (by omega) (by omega))]
    rcases hx with ⟨rfl, g⟩ | ⟨rfl, g⟩
    · rw [if_pos (fun j hj => g j (by omega))]; exact zg_1
    · rw [if_neg g]; exact zg_0
  | succ k ih =>
    intro i hi' n hn' x hx
    obtain ⟨n, rfl⟩ : ∃ m, n = m + 1 := ⟨n - 1, by omega⟩
    have hk := ih (i + 1) (by omega) n (by omega)
    obtain ⟨e1, e2⟩ := hh i (by omega)
    obtain ⟨l1, l2⟩ := hb i (by omega)
    show m7_isHeard_L8b _ _ _ _ σ = _
    unfold m7_isHeard_L8b
    rw [h2, if_neg (nI_ge (by omega) (by omega)), nI_1]
    rcases hx with ⟨rfl, g⟩ | ⟨rfl, g⟩
    · rw [if_neg (by decide)]
      simp (disch := omega) only [gd_nI, sy_ix, ix_nI, nI_2, nI_1, e1, e2, m7_isNote_eq, bd_some, b01_0, h9]
      by_cases c : hn i < N
      · rw [if_pos ((nI_iffP (by omega) (by omega)).mpr c)]
        have e3 := hst (hn i) c
        rw [e3]
        by_cases d : st (hn i) = nI (hi i)
        · rw [if_pos d]
          exact hk 1 (Or.inl ⟨rfl, fun j hj => by
            by_cases e : j = i
            · rw [e]; exact ⟨c, d⟩
            · exact g j (by omega)⟩)
        · rw [if_neg d]
          exact hk 0 (Or.inr ⟨rfl, fun q => d (q i (by omega)).2⟩)
      · rw [if_neg (fun q => c ((nI_iffP (by omega) (by omega)).mp q))]
        exact hk 0 (Or.inr ⟨rfl, fun q => c (q i (by omega)).1⟩)
    · rw [if_pos rfl]
      exact hk 0 (Or.inr ⟨rfl, g⟩)
abbrev isTl (σ : St) (T : Td) : Prop := σ 61 28 = nI (tH T) ∧ ∀ j, j < tH T → σ 79 (2 * j) = nI (tHn T j) ∧ σ 79 (2 * j + 1) = nI (tHi T j)
theorem m7_isHeard_sp {σ : St} {T : Td} {B : Bd} (hT : okT T) (hE : isTl σ T) (hM : isM σ B) (ho : okB B) : Ok (m7_isHeard σ) (fun y σ' => y = b01 (sp_fit T B) ∧ mFr σ σ' ∧ mRun σ' B) := by
  have h8 := hT.2.2.2.2.1
  unfold m7_isHeard
  refine ok_bd (m7_lives_sp hM ho) (fun _ σ1 g => ?_)
  have m1 := g.1.isM hM
  have e := m7_isHeard_loop (σ := σ1) (H := tH T) (N := bN B) (hn := tHn T) (hi := tHi T) (st := rSt (sp_run B 24)) h8 ho.2.1 (by rw [g.1.2 28 (by omega)]; exact hE.1) m1.2.2.1 (fun j hj => by rw [g.1.1 79 (by omega)]; exact hE.2 j hj) hT.2.2.2.2.2.1 (fun j hj => g.2.2.2.2.2.2.1 j hj (Or.inl (ho.2.2.2.2.2.2.1 j hj).1)) (tH T) 0 (Nat.zero_add _) sy_FU (by show _ < 1000; omega) 1 (Or.inl ⟨rfl, fun j hj => by omega⟩)
  rw [show m7_isHeard_L8 _ sy_FU 1 0 σ1 = _ from e]
  exact ok_some ⟨rfl, g.1, g.2⟩
theorem m7_never_loop {σ0 : St} {T : Td} (hT : okT T) (hM : isMT σ0 T) {B : Bd} (ho : okB B) : ∀ (k i : Nat), i + k = tE T → ∀ n, k < n → ∀ σ, mS 14 σ0 σ → (∃ x, isM σ (sp_setG B x)) → Ok (m7_neverNow_L4 (fun y8 σ9 => sy_lt (sy_sf σ9 61 14 0) (fun σ10 => some (y8, σ10))) n (sp_bits (fun e => sp_fit T (sp_setG B (sp_m1 e))) i) (nI i) σ) (fun y σ' => y = sp_bits (fun e => sp_fit T (sp_setG B (sp_m1 e))) (tE T) ∧ mFr σ0 σ') := by
  have hE := hT.2.2.1
  intro k
  induction k with
  | zero =>
    intro i hi n hn σ hF hB
    obtain ⟨n, rfl⟩ : ∃ m, n = m + 1 := ⟨n - 1, by omega⟩
    show Ok (m7_neverNow_L4b _ _ _ _ σ) _
    unfold m7_neverNow_L4b
    rw [hF.2 12 (by omega) (by omega), hM.2.1.2.1, if_pos (nI_le (by omega) (by omega)), show i = tE T by omega]
    exact ok_some (x := sp_bits (fun e => sp_fit T (sp_setG B (sp_m1 e))) (tE T)) (σ := sy_sf σ 61 14 0) ⟨rfl, fun k z => by rw [sf_n (by omega)]; exact hF.1 k z, fun j z => by
      by_cases e : j = 14
      · rw [e, sf_ss]; exact hM.2.1.2.2.2.1.symm
      · rw [sf_sn e]; exact hF.2 j z e⟩
  | succ k ih =>
    intro i hi n hn σ hF hB
    obtain ⟨n, rfl⟩ : ∃ m, n = m + 1 := ⟨n - 1, by omega⟩
    show Ok (m7_neverNow_L4b _ _ _ _ σ) _
    unfold m7_neverNow_L4b
    rw [hF.2 12 (by omega) (by omega), hM.2.1.2.1, if_neg (nI_ge (by omega) (by omega)), lt_eq]
    obtain ⟨x, hB⟩ := hB
    have hB1 : isM (sy_sf σ 61 14 (sp_m1 i)) (sp_setG B (sp_m1 i)) := isM.g (B := sp_setG B x) hB
    have hEar : isTl (sy_sf σ 61 14 (sp_m1 i)) T := by
      unfold isTl
      rw [sf_sn (by omega), sf_n (by omega), hF.2 28 (by omega) (by omega), hF.1 79 (by omega)]
      exact hM.2.2.1
    refine ok_bd (m7_isHeard_sp hT hEar hB1 (okB_g ho)) (fun y σ1 g => ?_)
    obtain ⟨rfl, g1, g2⟩ := g
    have hF1 : mS 14 σ0 σ1 := ⟨fun k z => by rw [g1.1 k z, sf_n (by omega)]; exact hF.1 k z, fun j z w => by rw [g1.2 j z, sf_sn w]; exact hF.2 j z w⟩
    have hk := ih (i + 1) (by omega) n (by omega) σ1 hF1 ⟨_, g1.isM hB1⟩
    rw [sp_bits_s] at hk
    rw [b01_0, nI_1]
    by_cases c : sp_fit T (sp_setG B (sp_m1 i))
    · rw [if_pos c] at hk ⊢
      exact hk
    · rw [if_neg c] at hk ⊢
      rw [lt_eq, Int32.or_zero]
      exact hk
theorem md_never {σ : St} {T : Td} (hT : okT T) (hM : isMT σ T) : MD (m7_never σ) σ (sp_never T) T := by
  have hE := hT.2.2.1
  unfold m7_never
  refine md_find hT hM (fun σ1 f1 m1 b1 r1 => ?_)
  unfold m7_neverNow
  refine ok_bd (m7_never_loop hT m1 (okB_told hT) (tE T) 0 (Nat.zero_add _) sy_FU (by show _ < 1000; omega) σ1 ⟨fun _ _ => rfl, fun _ _ _ => rfl⟩ ⟨bg (sp_told T), b1⟩) (fun y σ2 g => ok_some ⟨g.1, f1.tr g.2.wk.md, g.2.wk.MT m1⟩)
