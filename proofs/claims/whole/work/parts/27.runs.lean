/-! ===== promises 12 to 17, 33, 35: what the run as told says ===== -/
abbrev sp_R (T : Td) : Rs := sp_run (sp_told T) 24
theorem m6_runAsTold_sp {σ : St} {T : Td} (hT : okT T) (hC : isCT σ T) : Ok (m6_runAsTold σ) (fun r σ' => r = 25 ∧ clF σ σ' ∧ isCT σ' T ∧ cRel σ' 25 24 (sp_R T)) := by
  unfold m6_runAsTold
  rcases hC.2.1 with h0 | ⟨h1, h2⟩
  · rw [if_pos h0]
    refine ok_bd (m3_play_sp (by omega) hC.1.2.2.1 (okB_told hT)) (fun _ σ1 h => ?_)
    rw [zg_1, lt_eq]
    have hF : ∀ k, (k < 25 ∨ 33 < k) → k ≠ 0 → (sy_sf σ1 0 14 1) k = σ k := fun k p q => by rw [sf_n q]; exact h.1 k (by omega)
    have h0j : ∀ j, j ≠ 14 → (sy_sf σ1 0 14 1) 0 j = σ 0 j := fun j hj => by rw [sf_sn hj, h.1 0 (by omega)]
    have r2 : cRel (sy_sf σ1 0 14 1) 25 24 (sp_R T) := h.2.of (fun k p q => sf_n (by omega))
    refine ok_some ⟨rfl, fun k q => hF k (by omega) (by omega), ⟨hC.1.of (fun k q => hF k (by omega) (by omega)) (h0j 16 (by omega)), ?_⟩, r2⟩
    obtain ⟨g1, g2, g3, g4, g5, g6⟩ := hC.2
    refine ⟨Or.inr ⟨sf_ss _ _ _ _, r2⟩, ?_, ?_, ?_, ?_, ?_⟩
    · rw [h0j 15 (by omega), hF 50 (by omega) (by omega)]; exact g2
    · rw [hF 46 (by omega) (by omega)]; exact g3
    · rw [hF 47 (by omega) (by omega)]; exact g4
    · rw [hF 48 (by omega) (by omega)]; exact g5
    · rw [hF 49 (by omega) (by omega)]; exact g6
  · rw [if_neg (by rw [h1]; decide)]
    exact ok_some ⟨rfl, clF.rf, hC, h2⟩
theorem is3_25 : sy_is3 25 := Or.inl rfl
def an_at (T : Td) (a w : Int32) : Int32 := if (0 ≤ a ∧ a ≤ 23) ∧ (0 ≤ w ∧ w ≤ 2) then (if w = 0 then rSB (sp_R T) (sy_ix a) else if w = 1 then rHB (sp_R T) (sy_ix a) else rLB (sp_R T) (sy_ix a)) else -2
def an_heard (T : Td) (a : Int32) : Int32 := if 0 ≤ a ∧ a ≤ nI (bN (sp_told T)) - 1 then rSt (sp_R T) (sy_ix a) else -2
def an_takes (T : Td) (a w : Int32) : Int32 := if (0 ≤ a ∧ a ≤ nI (bP (sp_told T)) - 1) ∧ (0 ≤ w ∧ w ≤ 2) then (if w = 0 then rSnds (sp_R T) (sy_ix a) else if w = 1 then rTook (sp_R T) (sy_ix a) else rGoes (sp_R T) (sy_ix a)) else -2
def an_sum (T : Td) (a : Int32) : Int32 := if 0 ≤ a ∧ a ≤ 2 then (if a = 0 then rSnd (sp_R T) else if a = 1 then rLeak (sp_R T) else rStol (sp_R T)) else -2
theorem cl_at {σ : St} {T : Td} (hT : okT T) (hC : isCT σ T) (a w : Int32) : CL (m6_at a w σ) σ (an_at T a w) T := by
  unfold m6_at an_at
  rw [m6_within_eq, bd_some, b01_0]
  by_cases ca : 0 ≤ a ∧ a ≤ 23
  · rw [if_pos ca, m6_within_eq, bd_some, b01_0]
    by_cases cw : 0 ≤ w ∧ w ≤ 2
    · rw [if_pos cw, if_pos (And.intro ca cw)]
      obtain ⟨k, hk, rfl⟩ := nI_rng (n := 23) (by omega) ca
      refine ok_bd (m6_runAsTold_sp hT hC) (fun r σ1 g => ?_)
      obtain ⟨rfl, g1, g2, g3⟩ := g
      obtain ⟨q1, q2, q3⟩ := g3.2.2.2.2.2.2.2.2.2 k (by omega)
      rw [if_pos is3_25, show sy_ix (nI k) = k from nI_clamp (by omega), gd_nI (by omega) (by omega), gd_nI (by omega) (by omega), gd_nI (by omega) (by omega)]
      by_cases c0 : w = 0
      · rw [if_pos c0, if_pos c0]; exact ok_some ⟨q1, g1, g2⟩
      · rw [if_neg c0, if_neg c0]
        by_cases c1 : w = 1
        · rw [if_pos c1, if_pos c1]; exact ok_some ⟨q2, g1, g2⟩
        · rw [if_neg c1, if_neg c1]; exact ok_some ⟨q3, g1, g2⟩
    · rw [if_neg cw, if_neg (fun q => cw q.2)]
      exact ok_some ⟨rfl, clF.rf, hC⟩
  · rw [if_neg ca, if_neg (fun q => ca q.1)]
    exact ok_some ⟨rfl, clF.rf, hC⟩
theorem cl_heard {σ : St} {T : Td} (hT : okT T) (hC : isCT σ T) (a : Int32) : CL (m6_heard a σ) σ (an_heard T a) T := by
  have hN := (okB_told hT).2.1
  unfold m6_heard an_heard
  rw [m6_isNote_eq hC, bd_some, b01_0]
  by_cases ca : 0 ≤ a ∧ a ≤ nI (bN (sp_told T)) - 1
  · rw [if_pos ca, if_pos ca]
    obtain ⟨k, hk, rfl⟩ := nI_rngP (by omega) ca
    refine ok_bd (m6_runAsTold_sp hT hC) (fun r σ1 g => ?_)
    obtain ⟨rfl, g1, g2, g3⟩ := g
    have q := g3.2.2.2.2.2.2.2.2.1 k (by omega)
    rw [if_pos is3_25, show sy_ix (nI k) = k from nI_clamp (by omega), gd_nI (by omega) (by omega)]
    exact ok_some ⟨q, g1, g2⟩
  · rw [if_neg ca, if_neg ca]
    exact ok_some ⟨rfl, clF.rf, hC⟩
theorem cl_takes {σ : St} {T : Td} (hT : okT T) (hC : isCT σ T) (a w : Int32) : CL (m6_takes a w σ) σ (an_takes T a w) T := by
  have hP := (okB_told hT).1
  unfold m6_takes an_takes
  rw [m6_isPlayer_eq hC, bd_some, b01_0]
  by_cases ca : 0 ≤ a ∧ a ≤ nI (bP (sp_told T)) - 1
  · rw [if_pos ca, m6_within_eq, bd_some, b01_0]
    by_cases cw : 0 ≤ w ∧ w ≤ 2
    · rw [if_pos cw, if_pos (And.intro ca cw)]
      obtain ⟨k, hk, rfl⟩ := nI_rngP (by omega) ca
      refine ok_bd (m6_runAsTold_sp hT hC) (fun r σ1 g => ?_)
      obtain ⟨rfl, g1, g2, g3⟩ := g
      obtain ⟨q1, q2, q3⟩ := g3.2.2.2.2.2.2.2.1 k (by omega)
      rw [if_pos is3_25, show sy_ix (nI k) = k from nI_clamp (by omega), gd_nI (by omega) (by omega), gd_nI (by omega) (by omega), gd_nI (by omega) (by omega)]
      by_cases c0 : w = 0
      · rw [if_pos c0, if_pos c0]; exact ok_some ⟨q1, g1, g2⟩
      · rw [if_neg c0, if_neg c0]
        by_cases c1 : w = 1
        · rw [if_pos c1, if_pos c1]; exact ok_some ⟨q2, g1, g2⟩
        · rw [if_neg c1, if_neg c1]; exact ok_some ⟨q3, g1, g2⟩
    · rw [if_neg cw, if_neg (fun q => cw q.2)]
      exact ok_some ⟨rfl, clF.rf, hC⟩
  · rw [if_neg ca, if_neg (fun q => ca q.1)]
    exact ok_some ⟨rfl, clF.rf, hC⟩
theorem cl_sum {σ : St} {T : Td} (hT : okT T) (hC : isCT σ T) (a : Int32) : CL (m6_sum a σ) σ (an_sum T a) T := by
  unfold m6_sum an_sum
  rw [m6_within_eq, bd_some, b01_0]
  by_cases ca : 0 ≤ a ∧ a ≤ 2
  · rw [if_pos ca, if_pos ca]
    refine ok_bd (m6_runAsTold_sp hT hC) (fun r σ1 g => ?_)
    obtain ⟨rfl, g1, g2, g3⟩ := g
    rw [if_pos is3_25]
    by_cases c0 : a = 0
    · rw [if_pos c0, if_pos c0]; exact ok_some ⟨g3.2.2.2.2.1, g1, g2⟩
    · rw [if_neg c0, if_neg c0]
      by_cases c1 : a = 1
      · rw [if_pos c1, if_pos c1]; exact ok_some ⟨g3.2.2.2.1, g1, g2⟩
      · rw [if_neg c1, if_neg c1]; exact ok_some ⟨g3.2.2.1, g1, g2⟩
  · rw [if_neg ca, if_neg ca]
    exact ok_some ⟨rfl, clF.rf, hC⟩
/-! the reference -/
theorem md_find {σ : St} {T : Td} {α : Type} {x : α} {f : Unit → St → Option (α × St)} (hT : okT T) (hM : isMT σ T) (h : ∀ σ1, mdF σ σ1 → isMT σ1 T → isM σ1 (sp_told T) → mRun σ1 (sp_told T) → MD (f () σ1) σ x T) : MD (sy_bd (m7_find σ) f) σ x T :=
  ok_bd (m7_find_sp hT hM) (fun _ σ1 g => h σ1 g.1.md (g.1.MT hM) g.2.1 g.2.2)
theorem md_at {σ : St} {T : Td} (hT : okT T) (hM : isMT σ T) (a w : Int32) : MD (m7_at a w σ) σ (an_at T a w) T := by
  unfold m7_at an_at
  refine md_find hT hM (fun σ1 f1 m1 _ r1 => ?_)
  rw [m7_isBeat_eq, bd_some, b01_0]
  by_cases ca : 0 ≤ a ∧ a ≤ 23
  · rw [if_pos ca, show m7_in w.toInt64 0 2 σ1 = _ from m7_in32 w 0 2 σ1, bd_some, b01_0]
    by_cases cw : 0 ≤ w ∧ w ≤ 2
    · rw [if_pos cw, if_pos (And.intro ca cw)]
      obtain ⟨k, hk, rfl⟩ := nI_rng (n := 23) (by omega) ca
      obtain ⟨q1, q2, q3⟩ := r1.2.2.2.2.2.2 k (by omega)
      unfold m7_atBy
      rw [show sy_ix (nI k) = k from nI_clamp (by omega), gd_nI (by omega) (by omega), gd_nI (by omega) (by omega), gd_nI (by omega) (by omega)]
      by_cases c0 : w = 0
      · rw [if_pos c0, if_pos c0, bd_some]; exact ok_some ⟨q1, f1, m1⟩
      · rw [if_neg c0, if_neg c0]
        by_cases c1 : w = 1
        · rw [if_pos c1, if_pos c1, bd_some]; exact ok_some ⟨q2, f1, m1⟩
        · rw [if_neg c1, if_neg c1, bd_some]; exact ok_some ⟨q3, f1, m1⟩
    · rw [if_neg cw, if_neg (fun q => cw q.2)]
      exact ok_some ⟨rfl, f1, m1⟩
  · rw [if_neg ca, if_neg (fun q => ca q.1)]
    exact ok_some ⟨rfl, f1, m1⟩
theorem md_heard {σ : St} {T : Td} (hT : okT T) (hM : isMT σ T) (a : Int32) : MD (m7_heard a σ) σ (an_heard T a) T := by
  have hN := (okB_told hT).2.1
  unfold m7_heard an_heard
  refine md_find hT hM (fun σ1 f1 m1 b1 r1 => ?_)
  rw [m7_isNote_eq, bd_some, b01_0, b1.2.2.1]
  by_cases ca : 0 ≤ a ∧ a ≤ nI (bN (sp_told T)) - 1
  · rw [if_pos ca, if_pos ca]
    obtain ⟨k, hk, rfl⟩ := nI_rngP (by omega) ca
    have q := r1.2.2.2.2.2.1 k hk (Or.inl ((okB_told hT).2.2.2.2.2.2.1 k hk).1)
    rw [show sy_ix (nI k) = k from nI_clamp (by omega), gd_nI (by omega) (by omega)]
    exact ok_some ⟨q, f1, m1⟩
  · rw [if_neg ca, if_neg ca]
    exact ok_some ⟨rfl, f1, m1⟩
theorem md_takes {σ : St} {T : Td} (hT : okT T) (hM : isMT σ T) (a w : Int32) : MD (m7_takes a w σ) σ (an_takes T a w) T := by
  have hP := (okB_told hT).1
  unfold m7_takes an_takes
  refine md_find hT hM (fun σ1 f1 m1 b1 r1 => ?_)
  rw [m7_isPlayer_eq, bd_some, b01_0, b1.1]
  by_cases ca : 0 ≤ a ∧ a ≤ nI (bP (sp_told T)) - 1
  · rw [if_pos ca, show m7_in w.toInt64 0 2 σ1 = _ from m7_in32 w 0 2 σ1, bd_some, b01_0]
    by_cases cw : 0 ≤ w ∧ w ≤ 2
    · rw [if_pos cw, if_pos (And.intro ca cw)]
      obtain ⟨k, hk, rfl⟩ := nI_rngP (by omega) ca
      obtain ⟨q1, q2, q3⟩ := r1.2.2.2.2.1 k (by omega)
      unfold m7_takesBy
      rw [show sy_ix (nI k) = k from nI_clamp (by omega), gd_nI (by omega) (by omega), gd_nI (by omega) (by omega), gd_nI (by omega) (by omega)]
      by_cases c0 : w = 0
      · rw [if_pos c0, if_pos c0, bd_some]; exact ok_some ⟨q1, f1, m1⟩
      · rw [if_neg c0, if_neg c0]
        by_cases c1 : w = 1
        · rw [if_pos c1, if_pos c1, bd_some]; exact ok_some ⟨q2, f1, m1⟩
        · rw [if_neg c1, if_neg c1, bd_some]; exact ok_some ⟨q3, f1, m1⟩
    · rw [if_neg cw, if_neg (fun q => cw q.2)]
      exact ok_some ⟨rfl, f1, m1⟩
  · rw [if_neg ca, if_neg (fun q => ca q.1)]
    exact ok_some ⟨rfl, f1, m1⟩
theorem m7_sumBy_eq {σ : St} {B : Bd} (hM : isM σ B) (hB : okB B) (hR : mRun σ B) (a : Int32) : m7_sumBy a σ = some (if a = 0 then rSnd (sp_run B 24) else if a = 1 then rLeak (sp_run B 24) else rStol (sp_run B 24), σ) := by
  unfold m7_sumBy
  rw [m7_soundNow_eq hM hB hR, bd_some]
  by_cases c0 : a = 0
  · rw [if_pos c0, if_pos c0]
  · rw [if_neg c0, if_neg c0]
    by_cases c1 : a = 1
    · rw [if_pos c1, if_pos c1, hR.2.2.2.1]
    · rw [if_neg c1, if_neg c1, hR.2.2.1]
theorem md_sum {σ : St} {T : Td} (hT : okT T) (hM : isMT σ T) (a : Int32) : MD (m7_sum a σ) σ (an_sum T a) T := by
  unfold m7_sum an_sum
  refine md_find hT hM (fun σ1 f1 m1 b1 r1 => ?_)
  rw [show m7_in a.toInt64 0 2 σ1 = _ from m7_in32 a 0 2 σ1, bd_some, b01_0]
  by_cases ca : 0 ≤ a ∧ a ≤ 2
  · rw [if_pos ca, if_pos ca, m7_sumBy_eq b1 (okB_told hT) r1, bd_some]
    exact ok_some ⟨rfl, f1, m1⟩
  · rw [if_neg ca, if_neg ca]
    exact ok_some ⟨rfl, f1, m1⟩
/-! flat, silent, greedy -/
def sp_fl (f : Nat → Int32) : Nat → Nat → Int32
  | 0, _ => -1
  | k + 1, j => if f j = 0 then nI j else sp_fl f k (j + 1)
def sp_gr (f : Nat → Int32) : Nat → Int32 × Int32
  | 0 => (-1, 0)
  | n + 1 => if f n ≤ (sp_gr f n).2 then sp_gr f n else (nI n, f n)
def an_flat (T : Td) : Int32 := sp_fl (rHB (sp_R T)) 24 0
def an_silent (T : Td) : Int32 := sp_bits (fun k => rSnds (sp_R T) k = 0) (bP (sp_told T))
def an_greedy (T : Td) : Int32 := (sp_gr (rTook (sp_R T)) (bP (sp_told T))).1
theorem m6_flat_loop {σ : St} {f : Nat → Int32} (h : ∀ j, j < 24 → σ 27 j = f j) : ∀ (k j : Nat), j + k = 24 → ∀ n, k < n → m6_flat_L7 25 (fun y7 σ8 => some (y7, σ8)) n (nI j) σ = some (sp_fl f k j, σ) := by
  intro k
  induction k with
  | zero =>
    intro j hj n hn
    obtain ⟨n, rfl⟩ : ∃ m, n = m + 1 := ⟨n - 1, by omega⟩
    show m6_flat_L7b _ _ _ _ σ = _
    unfold m6_flat_L7b sp_fl
    rw [if_pos (show nI 24 ≤ nI j from nI_le (by omega) (by omega))]
  | succ k ih =>
    intro j hj n hn
    obtain ⟨n, rfl⟩ : ∃ m, n = m + 1 := ⟨n - 1, by omega⟩
    have hk := ih (j + 1) (by omega) n (by omega)
    have hj' := h j (by omega)
    show m6_flat_L7b _ _ _ _ σ = _
    unfold m6_flat_L7b sp_fl
    rw [if_neg (show ¬ nI 24 ≤ nI j from nI_ge (by omega) (by omega)), show sy_ix (nI j) = j from nI_clamp (by omega), gd_nI (by omega) (by omega), nI_1, hj', hk]
    by_cases c : f j = 0
    · rw [if_pos c, if_pos c]
    · rw [if_neg c, if_neg c]
theorem cl_flat {σ : St} {T : Td} (hT : okT T) (hC : isCT σ T) : CL (m6_flat σ) σ (an_flat T) T := by
  unfold m6_flat an_flat
  refine ok_bd (m6_runAsTold_sp hT hC) (fun r σ1 g => ?_)
  obtain ⟨rfl, g1, g2, g3⟩ := g
  rw [if_pos is3_25, show m6_flat_L7 25 _ sy_FU 0 σ1 = _ from m6_flat_loop (fun j hj => (g3.2.2.2.2.2.2.2.2.2 j hj).2.1) 24 0 (by omega) sy_FU (by show _ < 1000; omega)]
  exact ok_some ⟨rfl, g1, g2⟩
theorem nI_m1 (j : Nat) : nI (j + 1) + (-1) = nI j := by
  rw [← Int32.sub_eq_add_neg]; exact nI_pred j
theorem m7_flat_loop {σ : St} {f : Nat → Int32} (h : ∀ j, j < 24 → σ 72 j = f j) : ∀ (j : Nat), j ≤ 24 → ∀ n, j < n → m7_flatNow_L5 (fun y3 σ4 => some (y3, σ4)) n (sp_fl f (24 - j) j) (nI j + (-1)) σ = some (sp_fl f 24 0, σ) := by
  intro j
  induction j with
  | zero =>
    intro _ n hn
    obtain ⟨n, rfl⟩ : ∃ m, n = m + 1 := ⟨n - 1, by omega⟩
    show m7_flatNow_L5b _ _ _ _ σ = _
    unfold m7_flatNow_L5b
    rw [if_pos (by decide)]
  | succ j ih =>
    intro hj n hn
    obtain ⟨n, rfl⟩ : ∃ m, n = m + 1 := ⟨n - 1, by omega⟩
    have hk := ih (by omega) n (by omega)
    have hj' := h j (by omega)
    show m7_flatNow_L5b _ _ _ _ σ = _
    unfold m7_flatNow_L5b
    rw [nI_m1, if_neg (nI_pos (by omega)), show sy_ix (nI j) = j from nI_clamp (by omega), gd_nI (by omega) (by omega), hj']
    rw [show 24 - j = (24 - (j + 1)) + 1 by omega] at hk
    unfold sp_fl at hk
    by_cases c : f j = 0
    · rw [if_pos c]
      rw [if_pos c] at hk
      rw [hk]; rfl
    · rw [if_neg c]
      rw [if_neg c] at hk
      rw [hk]; rfl
theorem m7_flatNow_eq {σ : St} {B : Bd} (hR : mRun σ B) : m7_flatNow σ = some (sp_fl (rHB (sp_run B 24)) 24 0, σ) :=
  m7_flat_loop (fun j hj => (hR.2.2.2.2.2.2 j hj).2.1) 24 (by omega) sy_FU (by show _ < 1000; omega)
theorem md_flat {σ : St} {T : Td} (hT : okT T) (hM : isMT σ T) : MD (m7_flat σ) σ (an_flat T) T := by
  unfold m7_flat an_flat
  refine md_find hT hM (fun σ1 f1 m1 b1 r1 => ?_)
  rw [m7_flatNow_eq r1, bd_some]
  exact ok_some ⟨rfl, f1, m1⟩
theorem m6_silent_loop {σ : St} {f : Nat → Int32} {P : Nat} (hP : P ≤ 11) (h0 : σ 5 0 = nI P) (h : ∀ j, j < 11 → σ 30 j = f j) : ∀ (k j : Nat), j + k = P → ∀ n, k < n → m6_silent_L9 25 (fun y9 σ10 => some (y9, σ10)) n (sp_bits (fun i => f i = 0) j) (nI j) σ = some (sp_bits (fun i => f i = 0) P, σ) := by
  intro k
  induction k with
  | zero =>
    intro j hj n hn
    obtain ⟨n, rfl⟩ : ∃ m, n = m + 1 := ⟨n - 1, by omega⟩
    show m6_silent_L9b _ _ _ _ _ σ = _
    unfold m6_silent_L9b
    rw [h0, if_pos (nI_le (by omega) (by omega)), show j = P by omega]
  | succ k ih =>
    intro j hj n hn
    obtain ⟨n, rfl⟩ : ∃ m, n = m + 1 := ⟨n - 1, by omega⟩
    have hk := ih (j + 1) (by omega) n (by omega)
    have hj' := h j (by omega)
    rw [show sp_bits (fun i => f i = 0) (j + 1) = if f j = 0 then sp_bits (fun i => f i = 0) j ||| sp_m1 j else sp_bits (fun i => f i = 0) j from rfl] at hk
    show m6_silent_L9b _ _ _ _ _ σ = _
    unfold m6_silent_L9b
    rw [h0, if_neg (nI_ge (by omega) (by omega)), show sy_ix (nI j) = j from nI_clamp (by omega), gd_nI (by omega) (by omega), nI_1, hj']
    by_cases c : f j = 0
    · rw [if_pos c] at hk ⊢
      exact hk
    · rw [if_neg c] at hk ⊢
      exact hk
theorem cl_silent {σ : St} {T : Td} (hT : okT T) (hC : isCT σ T) : CL (m6_silent σ) σ (an_silent T) T := by
  unfold m6_silent an_silent
  have hP := (okB_told hT).1
  refine ok_bd (m6_runAsTold_sp hT hC) (fun r σ1 g => ?_)
  obtain ⟨rfl, g1, g2, g3⟩ := g
  rw [if_pos is3_25, show m6_silent_L9 25 _ sy_FU 0 0 σ1 = _ from m6_silent_loop (by omega) g2.1.2.2.1.1 (fun j hj => (g3.2.2.2.2.2.2.2.1 j hj).1) _ 0 (Nat.zero_add _) sy_FU (by show _ < 1000; omega)]
  exact ok_some ⟨rfl, g1, g2⟩
theorem m7_silent_loop {σ : St} {f : Nat → Int32} {P : Nat} (hP : P ≤ 11) (h0 : σ 61 7 = nI P) (h : ∀ j, j < 11 → σ 75 j = f j) : ∀ (k j : Nat), j + k = P → ∀ n, k < n → m7_silentNow_L4 (fun y9 σ10 => some (y9, σ10)) n (sp_bits (fun i => f i = 0) j) (nI j) σ = some (sp_bits (fun i => f i = 0) P, σ) := by
  intro k
  induction k with
  | zero =>
    intro j hj n hn
    obtain ⟨n, rfl⟩ : ∃ m, n = m + 1 := ⟨n - 1, by omega⟩
    show m7_silentNow_L4b _ _ _ _ σ = _
    unfold m7_silentNow_L4b
    rw [h0, if_pos (nI_le (by omega) (by omega)), show j = P by omega]
  | succ k ih =>
    intro j hj n hn
    obtain ⟨n, rfl⟩ : ∃ m, n = m + 1 := ⟨n - 1, by omega⟩
    have hk := ih (j + 1) (by omega) n (by omega)
    have hj' := h j (by omega)
    rw [show sp_bits (fun i => f i = 0) (j + 1) = if f j = 0 then sp_bits (fun i => f i = 0) j ||| sp_m1 j else sp_bits (fun i => f i = 0) j from rfl] at hk
    show m7_silentNow_L4b _ _ _ _ σ = _
    unfold m7_silentNow_L4b
    rw [h0, if_neg (nI_ge (by omega) (by omega)), show sy_ix (nI j) = j from nI_clamp (by omega), gd_nI (by omega) (by omega), nI_1, hj']
    by_cases c : f j = 0
    · rw [if_pos c] at hk ⊢
      exact hk
    · rw [if_neg c] at hk ⊢
      rw [lt_eq, Int32.or_zero]
      exact hk
theorem m7_silentNow_eq {σ : St} {B : Bd} (hM : isM σ B) (hB : okB B) (hR : mRun σ B) : m7_silentNow σ = some (sp_bits (fun k => rSnds (sp_run B 24) k = 0) (bP B), σ) :=
  m7_silent_loop (by have := hB.1; omega) hM.1 (fun j hj => (hR.2.2.2.2.1 j hj).1) _ 0 (Nat.zero_add _) sy_FU (by have := hB.1; show _ < 1000; omega)
theorem md_silent {σ : St} {T : Td} (hT : okT T) (hM : isMT σ T) : MD (m7_silent σ) σ (an_silent T) T := by
  unfold m7_silent an_silent
  refine md_find hT hM (fun σ1 f1 m1 b1 r1 => ?_)
  rw [m7_silentNow_eq b1 (okB_told hT) r1, bd_some]
  exact ok_some ⟨rfl, f1, m1⟩
theorem m6_greedy_loop {σ : St} {f : Nat → Int32} {P : Nat} (hP : P ≤ 11) (h0 : σ 5 0 = nI P) (h : ∀ j, j < 11 → σ 31 j = f j) : ∀ (k j : Nat), j + k = P → ∀ n, k < n → m6_greedy_L12 25 (fun y9 σ10 => some (y9, σ10)) n (sp_gr f j).1 (sp_gr f j).2 (nI j) σ = some ((sp_gr f P).1, σ) := by
  intro k
  induction k with
  | zero =>
    intro j hj n hn
    obtain ⟨n, rfl⟩ : ∃ m, n = m + 1 := ⟨n - 1, by omega⟩
    show m6_greedy_L12b _ _ _ _ _ _ σ = _
    unfold m6_greedy_L12b
    rw [h0, if_pos (nI_le (by omega) (by omega)), show j = P by omega]
  | succ k ih =>
    intro j hj n hn
    obtain ⟨n, rfl⟩ : ∃ m, n = m + 1 := ⟨n - 1, by omega⟩
    have hk := ih (j + 1) (by omega) n (by omega)
    have hj' := h j (by omega)
    rw [show sp_gr f (j + 1) = if f j ≤ (sp_gr f j).2 then sp_gr f j else (nI j, f j) from rfl] at hk
    show m6_greedy_L12b _ _ _ _ _ _ σ = _
    unfold m6_greedy_L12b
    rw [h0, if_neg (nI_ge (by omega) (by omega)), show sy_ix (nI j) = j from nI_clamp (by omega), gd_nI (by omega) (by omega), gd_nI (by omega) (by omega), nI_1, hj']
    by_cases c : f j ≤ (sp_gr f j).2
    · rw [if_pos c] at hk ⊢
      exact hk
    · rw [if_neg c] at hk ⊢
      exact hk
theorem cl_greedy {σ : St} {T : Td} (hT : okT T) (hC : isCT σ T) : CL (m6_greedy σ) σ (an_greedy T) T := by
  unfold m6_greedy an_greedy
  have hP := (okB_told hT).1
  refine ok_bd (m6_runAsTold_sp hT hC) (fun r σ1 g => ?_)
  obtain ⟨rfl, g1, g2, g3⟩ := g
  rw [if_pos is3_25, show m6_greedy_L12 25 _ sy_FU (-1) 0 0 σ1 = _ from m6_greedy_loop (by omega) g2.1.2.2.1.1 (fun j hj => (g3.2.2.2.2.2.2.2.1 j hj).2.1) _ 0 (Nat.zero_add _) sy_FU (by show _ < 1000; omega)]
  exact ok_some ⟨rfl, g1, g2⟩
theorem m7_greedy_loop {σ : St} {f : Nat → Int32} {P : Nat} (hP : P ≤ 11) (h0 : σ 61 7 = nI P) (h : ∀ j, j < 11 → σ 76 j = f j) : ∀ (k j : Nat), j + k = P → ∀ n, k < n → m7_greedyNow_L6 (fun y9 σ10 => some (y9, σ10)) n (sp_gr f j).1 (sp_gr f j).2 (nI j) σ = some ((sp_gr f P).1, σ) := by
  intro k
  induction k with
  | zero =>
    intro j hj n hn
    obtain ⟨n, rfl⟩ : ∃ m, n = m + 1 := ⟨n - 1, by omega⟩
    show m7_greedyNow_L6b _ _ _ _ _ σ = _
    unfold m7_greedyNow_L6b
    rw [h0, if_pos (nI_le (by omega) (by omega)), show j = P by omega]
  | succ k ih =>
    intro j hj n hn
    obtain ⟨n, rfl⟩ : ∃ m, n = m + 1 := ⟨n - 1, by omega⟩
    have hk := ih (j + 1) (by omega) n (by omega)
    have hj' := h j (by omega)
    rw [show sp_gr f (j + 1) = if f j ≤ (sp_gr f j).2 then sp_gr f j else (nI j, f j) from rfl] at hk
    show m7_greedyNow_L6b _ _ _ _ _ σ = _
    unfold m7_greedyNow_L6b
    rw [h0, if_neg (nI_ge (by omega) (by omega)), show sy_ix (nI j) = j from nI_clamp (by omega), gd_nI (by omega) (by omega), gd_nI (by omega) (by omega), gd_nI (by omega) (by omega), nI_1, hj', m7_greater_eq, bd_some, bd_some]
    by_cases c : f j ≤ (sp_gr f j).2
    · rw [if_pos c] at hk ⊢
      rw [if_neg (fun q => by have q1 := i32_le.mp c; have q2 := i32_lt.mp q; omega)]
      exact hk
    · rw [if_neg c] at hk ⊢
      rw [if_pos (i32_lt.mpr (by have := mt i32_le.mpr c; omega))]
      exact hk
theorem m7_greedyNow_eq {σ : St} {B : Bd} (hM : isM σ B) (hB : okB B) (hR : mRun σ B) : m7_greedyNow σ = some ((sp_gr (rTook (sp_run B 24)) (bP B)).1, σ) :=
  m7_greedy_loop (by have := hB.1; omega) hM.1 (fun j hj => (hR.2.2.2.2.1 j hj).2.1) _ 0 (Nat.zero_add _) sy_FU (by have := hB.1; show _ < 1000; omega)
theorem md_greedy {σ : St} {T : Td} (hT : okT T) (hM : isMT σ T) : MD (m7_greedy σ) σ (an_greedy T) T := by
  unfold m7_greedy an_greedy
  refine md_find hT hM (fun σ1 f1 m1 b1 r1 => ?_)
  rw [m7_greedyNow_eq b1 (okB_told hT) r1, bd_some]
  exact ok_some ⟨rfl, f1, m1⟩
