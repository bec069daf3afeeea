/-! ===== promises 12 to 17, 33, 35: what the run as told says ===== -/
abbrev sp_R (T : Td) : Rs := sp_run (sp_told T) 24
theorem m6_runAsTold_sp {σ : St} {T : Td} (hT : okT T) (hC : isCT σ T) : Ok (m6_runAsTold σ) (fun r σ' => r = 25 ∧ clF σ σ' ∧ isCT σ' T ∧ cRel σ' 25 24 (sp_R T)) := by
  unfold m6_runAsTold
  rcases hC.2.1 with h0 | ⟨h1, h2⟩
  · rw [if_pos h0]
    refine ok_bd (m3_play_sp (by omega) hC.1.2.2.1 (okB_told hT)) (fun _ σ1 h => ?_)
    rw [zg_1, lt_eq]
    have hF : ∀ k, (k < 25 ∨ 33 < k) → k ≠ 0 → (sy_sf σ1 0 14 1) k = σ k := fun k p q => by rw [sf_n q]; exact h.1 k (by omega)
    have h0j : ∀ j, j ≠ 14 → (sy_sf σ1 0 14 1) 0 j = σ 0 j := fun j hj => by rw [sf_sn hj, h.1 0 (by omega)]
    have r2 : cRel (sy_sf σ1 0 14 1) 25 24 (sp_R T) := h.2.of (fun k p q => sf_n (by omega))
    refine ok_some ⟨rfl, fun k q => hF k (by omega) (by omega), ⟨hC.1.of (fun k q => hF k (by omega) (by omega)) (h0j 16 (by omega)), ?_⟩, r2⟩
    obtain ⟨g1, g2, g3, g4, g5, g6⟩ := hC.2
    refine ⟨Or.inr ⟨sf_ss _ _ _ _, r2⟩, ?_, ?_, ?_, ?_, ?_⟩
    · rw [h0j 15 (by omega), hF 50 (by omega) (by omega)]; exact g2
    · rw [hF 46 (by omega) (by omega)]; exact g3
    · rw [hF 47 (by omega) (by omega)]; exact g4
    · rw [hF 48 (by omega) (by omega)]; exact g5
    · rw [hF 49 (by omega) (by omega)]; exact g6
  · rw [if_neg (by rw [h1]; decide)]
    exact ok_some ⟨rfl, clF.rf, hC, h2⟩
theorem is3_25 : sy_is3 25 := Or.inl rfl
def an_at (T : Td) (a w : Int32) : Int32 := if (0 ≤ a ∧ a ≤ 23) ∧ (0 ≤ w ∧ w ≤ 2) then (if w = 0 then rSB (sp_R T) (sy_ix a) else if w = 1 then rHB (sp_R T) (sy_ix a) else rLB (sp_R T) (sy_ix a)) else -2
def an_heard (T : Td) (a : Int32) : Int32 := if 0 ≤ a ∧ a ≤ nI (bN (sp_told T)) - 1 then rSt (sp_R T) (sy_ix a) else -2
def an_takes (T : Td) (a w : Int32) : Int32 := if (0 ≤ a ∧ a ≤ nI (bP (sp_told T)) - 1) ∧ (0 ≤ w ∧ w ≤ 2) then (if w = 0 then rSnds (sp_R T) (sy_ix a) else if w = 1 then rTook (sp_R T) (sy_ix a) else rGoes (sp_R T) (sy_ix a)) else -2
def an_sum (T : Td) (a : Int32) : Int32 := if 0 ≤ a ∧ a ≤ 2 then (if a = 0 then rSnd (sp_R T) else if a = 1 then rLeak (sp_R T) else rStol (sp_R T)) else -2
theorem cl_at {σ : St} {T : Td} (hT : okT T) (hC : isCT σ T) (a w : Int32) : CL (m6_at a w σ) σ (an_at T a w) T := by
  unfold m6_at an_at
  rw [m6_within_eq, bd_some, b01_0]
  by_cases ca : 0 ≤ a ∧ a ≤ 23
  · rw [if_pos ca, m6_within_eq, bd_some, b01_0]
    by_cases cw : 0 ≤ w ∧ w ≤ 2
    · rw [if_pos cw, if_pos (And.intro ca cw)]
      obtain ⟨k, hk, rfl⟩ := nI_rng (n := 23) (by omega) ca
      refine ok_bd (m6_runAsTold_sp hT hC) (fun r σ1 g => ?_)
      obtain ⟨rfl, g1, g2, g3⟩ := g
      obtain ⟨q1, q2, q3⟩ := g3.2.2.2.2.2.2.2.2.2 k (by omega)
      rw [if_pos is3_25, show sy_ix (nI k) = k from nI_clamp (by omega), gd_nI (by omega) (by omega), gd_nI (by omega) (by omega), gd_nI (by omega) (by omega)]
      by_cases c0 : w = 0
      · rw [if_pos c0, if_pos c0]; exact ok_some ⟨q1, g1, g2⟩
      · rw [if_neg c0, if_neg c0]
        by_cases c1 : w = 1
        · rw [if_pos c1, if_pos c1]; exact ok_some ⟨q2, g1, g2⟩
        · rw [if_neg c1, if_neg c1]; exact ok_some ⟨q3, g1, g2⟩
    · rw [if_neg cw, if_neg (fun q => cw q.2)]
      exact ok_some ⟨rfl, clF.rf, hC⟩
  · rw [if_neg ca, if_neg (fun q => ca q.1)]
    exact ok_some ⟨rfl, clF.rf, hC⟩
theorem cl_heard {σ : St} {T : Td} (hT : okT T) (hC : isCT σ T) (a : Int32) : CL (m6_heard a σ) σ (an_heard T a) T := by
  have hN := (okB_told hT).2.1
  unfold m6_heard an_heard
  rw [m6_isNote_eq hC, bd_some, b01_0]
  by_cases ca : 0 ≤ a ∧ a ≤ nI (bN (sp_told T)) - 1
  · rw [if_pos ca, if_pos ca]
    obtain ⟨k, hk, rfl⟩ := nI_rngP (by omega) ca
    refine ok_bd (m6_runAsTold_sp hT hC) (fun r σ1 g => ?_)
    obtain ⟨rfl, g1, g2, g3⟩ := g
    have q := g3.2.2.2.2.2.2.2.2.1 k (by omega)
    rw [if_pos is3_25, show sy_ix (nI k) = k from nI_clamp (by omega), gd_nI (by omega) (by omega)]
    exact ok_some ⟨q, g1, g2⟩
  · rw [if_neg ca, if_neg ca]
    exact ok_some ⟨rfl, clF.rf, hC⟩
theorem cl_takes {σ : St} {T : Td} (hT : okT T) (hC : isCT σ T) (a w : Int32) : CL (m6_takes a w σ) σ (an_takes T a w) T := by
  have hP := (okB_told hT).1
  unfold m6_takes an_takes
  rw [m6_isPlayer_eq hC, bd_some, b01_0]
  by_cases ca : 0 ≤ a ∧ a ≤ nI (bP (sp_told T)) - 1
  · rw [if_pos ca, m6_within_eq, bd_some, b01_0]
    by_cases cw : 0 ≤ w ∧ w ≤ 2
    · rw [if_pos cw, if_pos (And.intro ca cw)]
      obtain ⟨k, hk, rfl⟩ := nI_rngP (by omega) ca
      refine ok_bd (m6_runAsTold_sp hT hC) (fun r σ1 g => ?_)
      obtain ⟨rfl, g1, g2, g3⟩ := g
      obtain ⟨q1, q2, q3⟩ := g3.2.2.2.2.2.2.2.1 k (by omega)
      rw [if_pos is3_25, show sy_ix (nI k) = k from nI_clamp (by omega), gd_nI (by omega) (by omega), gd_nI (by omega) (by omega), gd_nI (by omega) (by omega)]
      by_cases c0 : w = 0
      · rw [if_pos c0, if_pos c0]; exact ok_some ⟨q1, g1, g2⟩
      · rw [if_neg c0, if_neg c0]
        by_cases c1 : w = 1
        · rw [if_pos c1, if_pos c1]; exact ok_some ⟨q2, g1, g2⟩
        · rw [if_neg c1, if_neg c1]; exact ok_some ⟨q3, g1, g2⟩
    · rw [if_neg cw, if_neg (fun q => cw q.2)]
      exact ok_some ⟨rfl, clF.rf, hC⟩
  · rw [if_neg ca, if_neg (fun q => ca q.1)]
    exact ok_some ⟨rfl, clF.rf, hC⟩
theorem cl_sum {σ : St} {T : Td} (hT : okT T) (hC : isCT σ T) (a : Int32) : CL (m6_sum a σ) σ (an_sum T a) T := by
  unfold m6_sum an_sum
  rw [m6_within_eq, bd_some, b01_0]
  by_cases ca : 0 ≤ a ∧ a ≤ 2
  · rw [if_pos ca, if_pos ca]
    refine ok_bd (m6_runAsTold_sp hT hC) (fun r σ1 g => ?_)
    obtain ⟨rfl, g1, g2, g3⟩ := g
    rw [if_pos is3_25]
    by_cases c0 : a = 0
    · rw [if_pos c0, if_pos c0]; exact ok_some ⟨g3.2.2.2.2.1, g1, g2⟩
    · rw [if_neg c0, if_neg c0]
      by_cases c1 : a = 1
      · rw [if_pos c1, if_pos c1]; exact ok_some ⟨g3.2.2.2.1, g1, g2⟩
      · rw [if_neg c1, if_neg c1]; exact ok_some ⟨g3.2.2.1, g1, g2⟩
  · rw [if_neg ca, if_neg ca]
    exact ok_some ⟨rfl, clF.rf, hC⟩
/-! the reference -/
theorem md_find {σ : St} {T : Td} {α : Type} {x : α} {f : Unit → St → Option (α × St)} (hT : okT T) (hM : isMT σ T) (h : ∀ σ1, mdF σ σ1 → isMT σ1 T → isM σ1 (sp_told T) → mRun σ1 (sp_told T) → MD (f () σ1) σ x T) : MD (sy_bd (m7_find σ) f) σ x T :=
  ok_bd (m7_find_sp hT hM) (fun _ σ1 g => h σ1 g.1.md (g.1.MT hM) g.2.1 g.2.2)
theorem md_at {σ : St} {T : Td} (hT : okT T) (hM : isMT σ T) (a w : Int32) : MD (m7_at a w σ) σ (an_at T a w) T := by
  unfold m7_at an_at
  refine md_find hT hM (fun σ1 f1 m1 _ r1 => ?_)
  rw [m7_isBeat_eq, bd_some, b01_0]
  by_cases ca : 0 ≤ a ∧ a ≤ 23
  · rw [if_pos ca, show m7_in w.toInt64 0 2 σ1 = _ from m7_in32 w 0 2 σ1, bd_some, b01_0]
    by_cases cw : 0 ≤ w ∧ w ≤ 2
    · rw [if_pos cw, if_pos (And.intro ca cw)]
      obtain ⟨k, hk, rfl⟩ := nI_rng (n := 23) (by omega) ca
      obtain ⟨q1, q2, q3⟩ := r1.2.2.2.2.2.2 k (by omega)
      unfold m7_atBy
      rw [show sy_ix (nI k) = k from nI_clamp (by omega), gd_nI (by omega) (by omega), gd_nI (by omega) (by omega), gd_nI (by omega) (by omega)]
      by_cases c0 : w = 0
      · rw [if_pos c0, if_pos c0, bd_some]; exact ok_some ⟨q1, f1, m1⟩
      · rw [if_neg c0, if_neg c0]
        by_cases c1 : w = 1
        · rw [if_pos c1, if_pos c1, bd_some]; exact ok_some ⟨q2, f1, m1⟩
        · rw [if_neg c1, if_neg c1, bd_some]; exact ok_some ⟨q3, f1, m1⟩
    · rw [if_neg cw, if_neg (fun q => cw q.2)]
      exact ok_some ⟨rfl, f1, m1⟩
  · rw [if_neg ca, if_neg (fun q => ca q.1)]
    exact ok_some ⟨rfl, f1, m1⟩
theorem md_heard {σ : St} {T : Td} (hT : okT T) (hM : isMT σ T) (a : Int32) : MD (m7_heard a σ) σ (an_heard T a) T := by
  have hN := (okB_told hT).2.1
  unfold m7_heard an_heard
  refine md_find hT hM (fun σ1 f1 m1 b1 r1 => ?_)
  rw [m7_isNote_eq, bd_some, b01_0, b1.2.2.1]
  by_cases ca : 0 ≤ a ∧ a ≤ nI (bN (sp_told T)) - 1
  · rw [if_pos ca, if_pos ca]
    obtain ⟨k, hk, rfl⟩ := nI_rngP (by omega) ca
    have q := r1.2.2.2.2.2.1 k hk (Or.inl ((okB_told hT).2.2.2.2.2.2.1 k hk).1)
    rw [show sy_ix (nI k) = k from nI_clamp (by omega), gd_nI (by omega) (by omega)]
    exact ok_some ⟨q, f1, m1⟩
  · rw [if_neg ca, if_neg ca]
    exact ok_some ⟨rfl, f1, m1⟩
theorem md_takes {σ : St} {T : Td} (hT : okT T) (hM : isMT σ T) (a w : Int32) : MD (m7_takes a w σ) σ (an_takes T a w) T := by
  have hP := (okB_told hT).1
  unfold m7_takes an_takes
  refine md_find hT hM (fun σ1 f1 m1 b1 r1 => ?_)
  rw [m7_isPlayer_eq, bd_some, b01_0, b1.1]
  by_cases ca : 0 ≤ a ∧ a ≤ nI (bP (sp_told T)) - 1
  · rw [if_pos ca, show m7_in w.toInt64 0 2 σ1 = _ from m7_in32 w 0 2 σ1, bd_some, b01_0]
    by_cases cw : 0 ≤ w ∧ w ≤ 2
    · rw [if_pos cw, if_pos (And.intro ca cw)]
      obtain ⟨k, hk, rfl⟩ := nI_rngP (by omega) ca
      obtain ⟨q1, q2, q3⟩ := r1.2.2.2.2.1 k (by omega)
      unfold m7_takesBy
      rw [show sy_ix (nI k) = k from nI_clamp (by omega), gd_nI (by omega) (by omega), gd_nI (by omega) (by omega), gd_nI (by omega) (by omega)]
      by_cases c0 : w = 0
      · rw [if_pos c0, if_pos c0, bd_some]; exact ok_some ⟨q1, f1, m1⟩
      · rw [if_neg c0, if_neg c0]
        by_cases c1 : w = 1
        · rw [if_pos c1, if_pos c1, bd_some]; exact ok_some ⟨q2, f1, m1⟩
        · rw [if_neg c1, if_neg c1, bd_some]; exact ok_some ⟨q3, f1, m1⟩
    · rw [if_neg cw, if_neg (fun q => cw q.2)]
      exact ok_some ⟨rfl, f1, m1⟩
  · rw [if_neg ca, if_neg (fun q => ca q.1)]
    exact ok_some ⟨rfl, f1, m1⟩
theorem m7_sumBy_eq {σ : St} {B : Bd} (hM : isM σ B) (hB : okB B) (hR : mRun σ B) (a : Int32) : m7_sumBy a σ = some (if a = 0 then rSnd (sp_run B 24) else if a = 1 then rLeak (sp_run B 24) else rStol (sp_run B 24), σ) := by
  unfold m7_sumBy
  rw [m7_soundNow_eq hM hB hR, bd_some]
  by_cases c0 : a = 0
  · rw [if_pos c0, if_pos c0]
  · rw [if_neg c0, if_neg c0]
    by_cases c1 : a = 1
    · rw [if_pos c1, if_pos c1, hR.2.2.2.1]
    · rw [if_neg c1, if_neg c1, hR.2.2.1]
theorem md_sum {σ : St} {T : Td} (hT : okT T) (hM : isMT σ T) (a : Int32) : MD (m7_sum a σ) σ (an_sum T a) T := by
  unfold m7_sum an_sum
  refine md_find hT hM (fun σ1 f1 m1 b1 r1 => ?_)
  rw [show m7_in a.toInt64 0 2 σ1 = _ from m7_in32 a 0 2 σ1, bd_some, b01_0]
  by_cases ca : 0 ≤ a ∧ a ≤ 2
  · rw [if_pos ca, if_pos ca, m7_sumBy_eq b1 (okB_told hT) r1, bd_some]
    exact ok_some ⟨rfl, f1, m1⟩
  · rw [if_neg ca, if_neg ca]
    exact ok_some ⟨rfl, f1, m1⟩
/-! flat, silent, greedy -/
def sp_fl (f : Nat → Int32) : Nat → Nat → Int32
  | 0, _ => -1
  | k + 1, j => if f j = 0 then nI j else sp_fl f k (j + 1)
def sp_gr (f : Nat → Int32) : Nat → Int32 × Int32
  | 0 => (-1, 0)
  | n + 1 => if f n ≤ (sp_gr f n).2 then sp_gr f n else (nI n, f n)
def an_flat (T : Td) : Int32 := sp_fl (rHB (sp_R T)) 24 0
def an_silent (T : Td) : Int32 := sp_bits (fun k => rSnds (sp_R T) k = 0) (bP (sp_told T))
def an_greedy (T : Td) : Int32 := (sp_gr (rTook (sp_R T)) (bP (sp_told T))).1
theorem m6_flat_loop {σ : St} {f : Nat → Int32} (h : ∀ j, j < 24 → σ 27 j = f j) : ∀ (k j : Nat), j + k = 24 → ∀ n, k < n → m6_flat_L7 25 (fun y7 σ8 => some (y7, σ8)) n (nI j) σ = some (sp_fl f k j, σ) := by
  intro k
  induction k with
  | zero =>
    intro j hj n hn
    obtain ⟨n, rfl⟩ : ∃ m, n = m + 1 := ⟨n - 1, by omega⟩
    show m6_flat_L7b _ _ _ _ σ = _
    unfold m6_flat_L7b sp_fl
    rw [if_pos (show (24 : Int32) ≤ nI j from nI_le (a := 24) (by omega) (by omega))]
  | succ k ih =>
    intro j hj n hn
    obtain ⟨n, rfl⟩ : ∃ m, n = m + 1 := ⟨n - 1, by omega⟩
    have hk := ih (j + 1) (by omega) n (by omega)
    have hj' := h j (by omega)
    show m6_flat_L7b _ _ _ _ σ = _
    unfold m6_flat_L7b sp_fl
    rw [if_neg (show ¬ (24 : Int32) ≤ nI j from nI_ge (b := 24) (by omega) (by omega)), show sy_ix (nI j) = j from nI_clamp (by omega), gd_nI (by omega) (by omega), nI_1, hj', hk]
    by_cases c : f j = 0
    · rw [if_pos c, if_pos c]
    · rw [if_neg c, if_neg c]
theorem cl_flat {σ : St} {T : Td} (hT : okT T) (hC : isCT σ T) : CL (m6_flat σ) σ (an_flat T) T := by
  unfold m6_flat an_flat
  refine ok_bd (m6_runAsTold_sp hT hC) (fun r σ1 g => ?_)
  obtain ⟨rfl, g1, g2, g3⟩ := g
  rw [if_pos is3_25, show m6_flat_L7 25 _ sy_FU 0 σ1 = _ from m6_flat_loop (fun j hj => (g3.2.2.2.2.2.2.2.2.2 j hj).2.1) 24 0 (by omega) sy_FU (by show _ < 1000; omega)]
  exact ok_some ⟨rfl, g1, g2⟩
theorem nI_m1 (j : Nat) : nI (j + 1) + (-1) = nI j := by
  rw [← Int32.sub_eq_add_neg]; exact nI_pred j
theorem m7_flat_loop {σ : St} {f : Nat → Int32} (h : ∀ j, j < 24 → σ 72 j = f j) : ∀ (j : Nat), j ≤ 24 → ∀ n, j < n → m7_flatNow_L5 (fun y3 σ4 => some (y3, σ4)) n (sp_fl f (24 - j) j) (nI j + (-1)) σ = some (sp_fl f 24 0, σ) := by
  intro j
  induction j with
  | zero =>
    intro _ n hn
    obtain ⟨n, rfl⟩ : ∃ m, n = m + 1 := ⟨n - 1, by omega⟩
    show m7_flatNow_L5b _ _ _ _ σ = _
    unfold m7_flatNow_L5b
    rw [if_pos (by decide)]
  | succ j ih =>
    intro hj n hn
    obtain ⟨n, rfl⟩ : ∃ m, n = m + 1 := ⟨n - 1, by omega⟩
    have hk := ih (by omega) n (by omega)
    have hj' := h j (by omega)
    show m7_flatNow_L5b _ _ _ _ σ = _
    unfold m7_flatNow_L5b
    rw [nI_m1, if_neg (nI_pos (by omega)), show sy_ix (nI j) = j from nI_clamp (by omega), gd_nI (by omega) (by omega), hj']
    rw [show 24 - j = (24 - (j + 1)) + 1 by omega] at hk
    unfold sp_fl at hk
    by_cases c : f j = 0
    · rw [if_pos c]
      rw [if_pos c] at hk
      rw [hk]; rfl
    · rw [if_neg c]
      rw [if_neg c] at hk
      rw [hk]; rfl
theorem m7_flatNow_eq {σ : St} {B : Bd} (hR : mRun σ B) : m7_flatNow σ = some (sp_fl (rHB (sp_run B 24)) 24 0, σ) :=
  m7_flat_loop (fun j hj => (hR.2.2.2.2.2.2 j hj).2.1) 24 (by omega) sy_FU (by show _ < 1000; omega)
theorem md_flat {σ : St} {T : Td} (hT : okT T) (hM : isMT σ T) : MD (m7_flat σ) σ (an_flat T) T := by
  unfold m7_flat an_flat
  refine md_find hT hM (fun σ1 f1 m1 b1 r1 => ?_)
  rw [m7_flatNow_eq r1, bd_some]
  exact ok_some ⟨rfl, f1, m1⟩
theorem m6_silent_loop {σ : St} {f : Nat → Int32} {P : Nat} (hP : P ≤ 11) (h0 : σ 5 0 = nI P) (h : ∀ j, j < 11 → σ 30 j = f j) : ∀ (k j : Nat), j + k = P → ∀ n, k < n → m6_silent_L9 25 (fun y9 σ10 => some (y9, σ10)) n (sp_bits (fun i => f i = 0) j) (nI j) σ = some (sp_bits (fun i => f i = 0) P, σ) := by
  intro k
  induction k with
  | zero =>
    intro j hj n hn
    obtain ⟨n, rfl⟩ : ∃ m, n = m + 1 := ⟨n - 1, by omega⟩
    show m6_silent_L9b _ _ _ _ _ σ = _
    unfold m6_silent_L9b
    rw [h0, if_pos (nI_le (by omega) (by omega)), show j = P by omega]
  | succ k ih =>
    intro j hj n hn
    obtain ⟨n, rfl⟩ : ∃ m, n = m + 1 := ⟨n - 1, by omega⟩
    have hk := ih (j + 1) (by omega) n (by omega)
    have hj' := h j (by omega)
    rw [show sp_bits (fun i => f i = 0) (j + 1) = if f j = 0 then sp_bits (fun i => f i = 0) j ||| sp_m1 j else sp_bits (fun i => f i = 0) j from rfl] at hk
    show m6_silent_L9b _ _ _ _ _ σ = _
    unfold m6_silent_L9b
    rw [h0, if_neg (nI_ge (by omega) (by omega)), show sy_ix (nI j) = j from nI_clamp (by omega), gd_nI (by omega) (by omega), nI_1, hj']
    by_cases c : f j = 0
    · rw [if_pos c] at hk ⊢
      exact hk
    · rw [if_neg c] at hk ⊢
      exact hk
theorem cl_silent {σ : St} {T : Td} (hT : okT T) (hC : isCT σ T) : CL (m6_silent σ) σ (an_silent T) T := by
  unfold m6_silent an_silent
  have hP := (okB_told hT).1
  refine ok_bd (m6_runAsTold_sp hT hC) (fun r σ1 g => ?_)
  obtain ⟨rfl, g1, g2, g3⟩ := g
  rw [if_pos is3_25, show m6_silent_L9 25 _ sy_FU 0 0 σ1 = _ from m6_silent_loop (by omega) g2.1.2.2.1.1 (fun j hj => (g3.2.2.2.2.2.2.2.1 j hj).1) _ 0 (Nat.zero_add _) sy_FU (by show _ < 1000; omega)]
  exact ok_some ⟨rfl, g1, g2⟩
theorem m7_silent_loop {σ : St} {f : Nat → Int32} {P : Nat} (hP : P ≤ 11) (h0 : σ 61 7 = nI P) (h : ∀ j, j < 11 → σ 75 j = f j) : ∀ (k j : Nat), j + k = P → ∀ n, k < n → m7_silentNow_L4 (fun y9 σ10 => some (y9, σ10)) n (sp_bits (fun i => f i = 0) j) (nI j) σ = some (sp_bits (fun i => f i = 0) P, σ) := by
  intro k
  induction k with
  | zero =>
    intro j hj n hn
    obtain ⟨n, rfl⟩ : ∃ m, n = m + 1 := ⟨n - 1, by omega⟩
    show m7_silentNow_L4b _ _ _ _ σ = _
    unfold m7_silentNow_L4b
    rw [h0, if_pos (nI_le (by omega) (by omega)), show j = P by omega]
  | succ k ih =>
    intro j hj n hn
    obtain ⟨n, rfl⟩ : ∃ m, n = m + 1 := ⟨n - 1, by omega⟩
    have hk := ih (j + 1) (by omega) n (by omega)
    have hj' := h j (by omega)
    rw [show sp_bits (fun i => f i = 0) (j + 1) = if f j = 0 then sp_bits (fun i => f i = 0) j ||| sp_m1 j else sp_bits (fun i => f i = 0) j from rfl] at hk
    show m7_silentNow_L4b _ _ _ _ σ = _
    unfold m7_silentNow_L4b
    rw [h0, if_neg (nI_ge (by omega) (by omega)), show sy_ix (nI j) = j from nI_clamp (by omega), gd_nI (by omega) (by omega), nI_1, hj']
    by_cases c : f j = 0
    · rw [if_pos c] at hk ⊢
      exact hk
    · rw [if_neg c] at hk ⊢
      rw [lt_eq, Int32.or_zero]
      exact hk
theorem m7_silentNow_eq {σ : St} {B : Bd} (hM : isM σ B) (hB : okB B) (hR : mRun σ B) : m7_silentNow σ = some (sp_bits (fun k => rSnds (sp_run B 24) k = 0) (bP B), σ) :=
  m7_silent_loop (by have := hB.1; omega) hM.1 (fun j hj => (hR.2.2.2.2.1 j hj).1) _ 0 (Nat.zero_add _) sy_FU (by have := hB.1; show _ < 1000; omega)
theorem md_silent {σ : St} {T : Td} (hT : okT T) (hM : isMT σ T) : MD (m7_silent σ) σ (an_silent T) T := by
  unfold m7_silent an_silent
  refine md_find hT hM (fun σ1 f1 m1 b1 r1 => ?_)
  rw [m7_silentNow_eq b1 (okB_told hT) r1, bd_some]
  exact ok_some ⟨rfl, f1, m1⟩
theorem m6_greedy_loop {σ : St} {f : Nat → Int32} {P : Nat} (hP : P ≤ 11) (h0 : σ 5 0 = nI P) (h : ∀ j, j < 11 → σ 31 j = f j) : ∀ (k j : Nat), j + k = P → ∀ n, k < n → m6_greedy_L12 25 (fun y9 σ10 => some (y9, σ10)) n (sp_gr f j).1 (sp_gr f j).2 (nI j) σ = some ((sp_gr f P).1, σ) := by
  intro k
  induction k with
  | zero =>
    intro j hj n hn
    obtain ⟨n, rfl⟩ : ∃ m, n = m + 1 := ⟨n - 1, by omega⟩
    show m6_greedy_L12b _ _ _ _ _ _ σ = _
    unfold m6_greedy_L12b
    rw [h0, if_pos (nI_le (by omega) (by omega)), show j = P by omega]
  | succ k ih =>
    intro j hj n hn
    obtain ⟨n, rfl⟩ : ∃ m, n = m + 1 := ⟨n - 1, by omega⟩
    have hk := ih (j + 1) (by omega) n (by omega)
    have hj' := h j (by omega)
    rw [show sp_gr f (j + 1) = if f j ≤ (sp_gr f j).2 then sp_gr f j else (nI j, f j) from rfl] at hk
    show m6_greedy_L12b _ _ _ _ _ _ σ = _
    unfold m6_greedy_L12b
    rw [h0, if_neg (nI_ge (by omega) (by omega)), show sy_ix (nI j) = j from nI_clamp (by omega), gd_nI (by omega) (by omega), gd_nI (by omega) (by omega), nI_1, hj']
    by_cases c : f j ≤ (sp_gr f j).2
    · rw [if_pos c] at hk ⊢
      exact hk
    · rw [if_neg c] at hk ⊢
      exact hk
theorem cl_greedy {σ : St} {T : Td} (hT : okT T) (hC : isCT σ T) : CL (m6_greedy σ) σ (an_greedy T) T := by
  unfold m6_greedy an_greedy
  have hP := (okB_told hT).1
  refine ok_bd (m6_runAsTold_sp hT hC) (fun r σ1 g => ?_)
  obtain ⟨rfl, g1, g2, g3⟩ := g
  rw [if_pos is3_25, show m6_greedy_L12 25 _ sy_FU (-1) 0 0 σ1 = _ from m6_greedy_loop (by omega) g2.1.2.2.1.1 (fun j hj => (g3.2.2.2.2.2.2.2.1 j hj).2.1) _ 0 (Nat.zero_add _) sy_FU (by show _ < 1000; omega)]
  exact ok_some ⟨rfl, g1, g2⟩
theorem m7_greedy_loop {σ : St} {f : Nat → Int32} {P : Nat} (hP : P ≤ 11) (h0 : σ 61 7 = nI P) (h : ∀ j, j < 11 → σ 76 j = f j) : ∀ (k j : Nat), j + k = P → ∀ n, k < n → m7_greedyNow_L6 (fun y9 σ10 => some (y9, σ10)) n (sp_gr f j).1 (sp_gr f j).2 (nI j) σ = some ((sp_gr f P).1, σ) := by
  intro k
  induction k with
  | zero =>
    intro j hj n hn
    obtain ⟨n, rfl⟩ : ∃ m, n = m + 1 := ⟨n - 1, by omega⟩
    show m7_greedyNow_L6b _ _ _ _ _ σ = _
    unfold m7_greedyNow_L6b
    rw [h0, if_pos (nI_le (by omega) (by omega)), show j = P by omega]
  | succ k ih =>
    intro j hj n hn
    obtain ⟨n, rfl⟩ : ∃ m, n = m + 1 := ⟨n - 1, by omega⟩
    have hk := ih (j + 1) (by omega) n (by omega)
    have hj' := h j (by omega)
    rw [show sp_gr f (j + 1) = if f j ≤ (sp_gr f j).2 then sp_gr f j else (nI j, f j) from rfl] at hk
    show m7_greedyNow_L6b _ _ _ _ _ σ = _
    unfold m7_greedyNow_L6b
    rw [h0, if_neg (nI_ge (by omega) (by omega)), show sy_ix (nI j) = j from nI_clamp (by omega), gd_nI (by omega) (by omega), gd_nI (by omega) (by omega), gd_nI (by omega) (by omega), nI_1, hj', m7_greater_eq, bd_some, bd_some]
    by_cases c : f j ≤ (sp_gr f j).2
    · rw [if_pos c] at hk ⊢
      rw [if_neg (fun q => by have q1 := i32_le.mp c; have q2 := i32_lt.mp q; omega)]
      exact hk
    · rw [if_neg c] at hk ⊢
      rw [if_pos (i32_lt.mpr (by have := mt i32_le.mpr c; omega))]
      exact hk
theorem m7_greedyNow_eq {σ : St} {B : Bd} (hM : isM σ B) (hB : okB B) (hR : mRun σ B) : m7_greedyNow σ = some ((sp_gr (rTook (sp_run B 24)) (bP B)).1, σ) :=
  m7_greedy_loop (by have := hB.1; omega) hM.1 (fun j hj => (hR.2.2.2.2.1 j hj).2.1) _ 0 (Nat.zero_add _) sy_FU (by have := hB.1; show _ < 1000; omega)
theorem md_greedy {σ : St} {T : Td} (hT : okT T) (hM : isMT σ T) : MD (m7_greedy σ) σ (an_greedy T) T := by
  unfold m7_greedy an_greedy
  refine md_find hT hM (fun σ1 f1 m1 b1 r1 => ?_)
  rw [m7_greedyNow_eq b1 (okB_told hT) r1, bd_some]
  exact ok_some ⟨rfl, f1, m1⟩
/-! a choice by number -/
def sy_swI (x : Int32) (vs : List Int32) (d : Int32) : Int32 := if x.toInt < 0 ∨ (vs.length : Int) ≤ x.toInt then d else (vs[x.toInt.toNat]?).getD d
theorem sw_nI {γ : Type} {rs : List (Option γ)} {rd : Option γ} {k : Nat} (h : k < rs.length) (hk : k < 2 ^ 31) : sy_sw (nI k) rs rd = (rs[k]?).getD none := by
  unfold sy_sw
  rw [nI_toInt hk, if_neg (by omega)]
  rfl
theorem swI_nI {vs : List Int32} {d : Int32} {k : Nat} (h : k < vs.length) (hk : k < 2 ^ 31) : sy_swI (nI k) vs d = (vs[k]?).getD d := by
  unfold sy_swI
  rw [nI_toInt hk, if_neg (by omega)]
  rfl
theorem sw_o {a : Int32} {n : Nat} (h : ¬ (0 ≤ a ∧ a ≤ nI (n - 1))) (hn : 0 < n ∧ n < 2 ^ 31) : a.toInt < 0 ∨ (n : Int) ≤ a.toInt := by
  have e0 : (0 : Int32).toInt = 0 := by decide
  by_cases c : a.toInt < 0
  · exact Or.inl c
  · refine Or.inr ?_
    have h1 : ¬ a ≤ nI (n - 1) := fun q => h ⟨i32_le.mpr (by omega), q⟩
    have h2 := mt i32_le.mpr h1
    rw [nI_toInt (by omega)] at h2
    omega
theorem sw_out {γ : Type} {rs : List (Option γ)} {rd : Option γ} {a : Int32} (h : ¬ (0 ≤ a ∧ a ≤ nI (rs.length - 1))) (hn : 0 < rs.length ∧ rs.length < 2 ^ 31) : sy_sw a rs rd = rd := by
  unfold sy_sw
  rw [if_pos (sw_o h hn)]
theorem swI_out {vs : List Int32} {d a : Int32} (h : ¬ (0 ≤ a ∧ a ≤ nI (vs.length - 1))) (hn : 0 < vs.length ∧ vs.length < 2 ^ 31) : sy_swI a vs d = d := by
  unfold sy_swI
  rw [if_pos (sw_o h hn)]
/-! what is counted -/
def an_count (T : Td) (a : Int32) : Int32 := sy_swI a [nI (bP (sp_told T)), nI (bN (sp_told T)), nI (tN T 0), nI (tN T 1), nI (bE (sp_told T)), bbag (sp_told T), rSnd (sp_R T), nI (tH T), tL T] (-2)
theorem cl_count {σ : St} {T : Td} (hT : okT T) (hC : isCT σ T) (a : Int32) : CL (m6_count a σ) σ (an_count T a) T := by
  unfold m6_count an_count
  have hc := hC
  obtain ⟨⟨c1, c2, c3, c4, c5, c6⟩, -⟩ := hC
  by_cases ca : 0 ≤ a ∧ a ≤ 8
  · obtain ⟨k, hk, rfl⟩ := nI_rng (n := 8) (by omega) ca
    rw [sw_nI (by show _ < 9; omega) (by omega), swI_nI (by show _ < 9; omega) (by omega)]
    rcases (show k = 0 ∨ k = 1 ∨ k = 2 ∨ k = 3 ∨ k = 4 ∨ k = 5 ∨ k = 6 ∨ k = 7 ∨ k = 8 by omega) with rfl | rfl | rfl | rfl | rfl | rfl | rfl | rfl | rfl
    · exact ok_some ⟨c3.1, clF.rf, hc⟩
    · exact ok_some ⟨c3.2.2.1, clF.rf, hc⟩
    · exact ok_some ⟨c1.2.2.2.1, clF.rf, hc⟩
    · exact ok_some ⟨c2.2.2.2.1, clF.rf, hc⟩
    · exact ok_some ⟨c3.2.2.2.2.2.2.1, clF.rf, hc⟩
    · exact ok_some ⟨c3.2.2.2.2.2.1, clF.rf, hc⟩
    · refine (?_ : CL (sy_bd (m6_runAsTold σ) (fun r2 σ1 => if sy_is3 r2 then some (σ1 r2 7, σ1) else none)) σ (rSnd (sp_R T)) T)
      refine ok_bd (m6_runAsTold_sp hT hc) (fun r σ1 g => ?_)
      obtain ⟨rfl, g1, g2, g3⟩ := g
      rw [if_pos is3_25]
      exact ok_some ⟨g3.2.2.2.2.1, g1, g2⟩
    · exact ok_some ⟨c4.1, clF.rf, hc⟩
    · exact ok_some ⟨c6, clF.rf, hc⟩
  · rw [sw_out (by show ¬ (0 ≤ a ∧ a ≤ nI (9 - 1)); exact ca) (by show 0 < 9 ∧ 9 < 2 ^ 31; decide), swI_out (by show ¬ (0 ≤ a ∧ a ≤ nI (9 - 1)); exact ca) (by show 0 < 9 ∧ 9 < 2 ^ 31; decide)]
    exact ok_some ⟨rfl, clF.rf, hc⟩
theorem md_count {σ : St} {T : Td} (hT : okT T) (hM : isMT σ T) (a : Int32) : MD (m7_count a σ) σ (an_count T a) T := by
  unfold m7_count an_count
  refine md_find hT hM (fun σ1 f1 m1 b1 r1 => ?_)
  by_cases ca : 0 ≤ a ∧ a ≤ 8
  · obtain ⟨k, hk, rfl⟩ := nI_rng (n := 8) (by omega) ca
    rw [sw_nI (by show _ < 9; omega) (by omega), swI_nI (by show _ < 9; omega) (by omega)]
    rcases (show k = 0 ∨ k = 1 ∨ k = 2 ∨ k = 3 ∨ k = 4 ∨ k = 5 ∨ k = 6 ∨ k = 7 ∨ k = 8 by omega) with rfl | rfl | rfl | rfl | rfl | rfl | rfl | rfl | rfl
    · exact ok_some ⟨b1.1, f1, m1⟩
    · exact ok_some ⟨b1.2.2.1, f1, m1⟩
    · exact ok_some ⟨m1.1.1, f1, m1⟩
    · exact ok_some ⟨m1.1.2.2.1, f1, m1⟩
    · exact ok_some ⟨b1.2.2.2.2.2.1, f1, m1⟩
    · exact ok_some ⟨b1.2.2.2.2.1, f1, m1⟩
    · refine (?_ : MD (sy_bd (m7_soundNow σ1) (fun r3 σ2 => some (r3, σ2))) σ (rSnd (sp_R T)) T)
      rw [m7_soundNow_eq b1 (okB_told hT) r1, bd_some]
      exact ok_some ⟨rfl, f1, m1⟩
    · exact ok_some ⟨m1.2.2.1.1, f1, m1⟩
    · exact ok_some ⟨m1.2.2.2.2, f1, m1⟩
  · rw [sw_out (by show ¬ (0 ≤ a ∧ a ≤ nI (9 - 1)); exact ca) (by show 0 < 9 ∧ 9 < 2 ^ 31; decide), swI_out (by show ¬ (0 ≤ a ∧ a ≤ nI (9 - 1)); exact ca) (by show 0 < 9 ∧ 9 < 2 ^ 31; decide)]
    exact ok_some ⟨rfl, f1, m1⟩
/-! the holds laid on a sheet -/
def t_hwr (T : Td) (s : Nat) : Nat → Td
  | 0 => T
  | n + 1 => t_sx (t_hwr T s n) (tF (t_hwr T s n)) (tS (t_hwr T s n)) (va_up (tI (t_hwr T s n)) s (upd (tI (t_hwr T s n) s) n (sp_cut (tF T s) (rHB (sp_R T) n)))) (tL (t_hwr T s n))
theorem t_hwr_F (T : Td) (s : Nat) : ∀ n, tF (t_hwr T s n) = tF T ∧ tS (t_hwr T s n) = tS T
  | 0 => ⟨rfl, rfl⟩
  | n + 1 => t_hwr_F T s n
theorem okT_hwr {T : Td} {s : Nat} (hT : okT T) : ∀ n, okT (t_hwr T s n)
  | 0 => hT
  | n + 1 => okT_item (okT_hwr hT n)
def an_write (T : Td) (s : Int32) : Int32 × Td := if 0 ≤ s ∧ s ≤ 3 then (if 0 ≤ tF T (sy_ix s) then (nI (min (tS T (sy_ix s)) 24), t_hwr T (sy_ix s) (min (tS T (sy_ix s)) 24)) else (-10 - 1, t_lat T 1)) else (-2, T)
theorem an_write_ok {T : Td} (hT : okT T) (s : Int32) : okT (an_write T s).2 := by
  unfold an_write
  split
  · split
    · exact okT_hwr hT _
    · exact okT_lat hT
  · exact hT
theorem min_24 {z : Nat} (hz : z ≤ 60) : sy_min (nI z) 24 = nI (min z 24) ∧ sy_min 24 (nI z) = nI (min z 24) := by
  have e : (24 : Int32) = nI 24 := rfl
  rw [e]
  unfold sy_min
  by_cases c : z < 24
  · have a1 : ¬ nI 24 < nI z := nI_nlt (by omega) (by omega)
    have a2 : nI z < nI 24 := nI_lt c (by omega)
    rw [if_neg a1, if_pos a2, show min z 24 = z by omega]; exact ⟨rfl, rfl⟩
  · have a2 : ¬ nI z < nI 24 := nI_nlt (by omega) (by omega)
    rw [if_neg a2, show min z 24 = 24 by omega]
    by_cases d : z = 24
    · rw [d, if_neg (by decide)]; exact ⟨rfl, rfl⟩
    · have a1 : nI 24 < nI z := nI_lt (by omega) (by omega)
      rw [if_pos a1]; exact ⟨rfl, rfl⟩
theorem t_hwr_s (T : Td) (s n : Nat) : t_hwr T s (n + 1) = t_sx (t_hwr T s n) (tF (t_hwr T s n)) (tS (t_hwr T s n)) (va_up (tI (t_hwr T s n)) s (upd (tI (t_hwr T s n) s) n (sp_cut (tF T s) (rHB (sp_R T) n)))) (tL (t_hwr T s n)) := rfl
theorem m6_write_loop {σ0 : St} {T : Td} {s m : Nat} (hT : okT T) (hs : s < 4) (hm : m ≤ 24) (hf : 0 ≤ tF T s) : ∀ (k n : Nat), n + k = m → ∀ f, k < f → ∀ σ, clF σ0 σ → isCT σ (t_hwr T s n) → (∀ b, b < 24 → σ 27 b = rHB (sp_R T) b) → Ok (m6_write_L51 (53 + 2 * s) 25 (fun y15 σ16 => some (y15, σ16)) f (nI m) (nI n) σ) (fun y σ' => y = nI m ∧ clF σ0 σ' ∧ isCT σ' (t_hwr T s m)) := by
  intro k
  induction k with
  | zero =>
    intro n hn f hf σ hF hC hR
    obtain ⟨f, rfl⟩ : ∃ m, f = m + 1 := ⟨f - 1, by omega⟩
    show Ok (m6_write_L51b _ _ _ _ _ _ σ) _
    unfold m6_write_L51b
    rw [if_pos (nI_le (by omega) (by omega))]
    rw [show n = m by omega] at hC
    exact ok_some ⟨rfl, hF, hC⟩
  | succ k ih =>
    intro n hn f hf' σ hF hC hR
    obtain ⟨f, rfl⟩ : ∃ m, f = m + 1 := ⟨f - 1, by omega⟩
    show Ok (m6_write_L51b _ _ _ _ _ _ σ) _
    unfold m6_write_L51b
    have hsh := hC.1.2.2.2.2.1 s hs
    have e1 : σ (53 + 2 * s) 1 = tF T s := sh_form hf hsh (by rw [(t_hwr_F T s n).1])
    have e2 : σ (25 + 2) n = rHB (sp_R T) n := hR n (by omega)
    rw [if_neg (nI_ge (by omega) (by omega)), show sy_ix (nI n) = n from nI_clamp (by omega), gd_nI (by omega) (by omega), m4_put_sp (by omega), bd_some, e1, e2, nI_1]
    refine ih (n + 1) (by omega) f (by omega) _ (fun q hq => by rw [sf_n (by omega)]; exact hF q hq) (by rw [t_hwr_s]; exact ct_item hC hs) (fun b hb => by rw [sf_n (by omega)]; exact hR b hb)
theorem cl_write {σ : St} {T : Td} (hT : okT T) (hC : isCT σ T) (s : Int32) : CL (m6_write s σ) σ (an_write T s).1 (an_write T s).2 := by
  unfold m6_write an_write
  rw [m6_within_eq, bd_some, b01_0]
  by_cases c1 : 0 ≤ s ∧ s ≤ 3
  · rw [if_pos c1, if_pos c1]
    obtain ⟨s', hs', rfl⟩ := nI_rng (n := 3) (by omega) c1
    rw [show sy_ix (nI s') = s' from nI_clamp (by omega), gd_nI (by omega) (by omega)]
    have hsh := hC.1.2.2.2.2.1 s' (by omega)
    have h60 := (hT.2.2.2.2.2.2 s' (by omega)).1
    by_cases d1 : 0 ≤ tF T s'
    · rw [if_pos ((sh_lost hsh).mpr d1), if_pos d1]
      refine ok_bd (m6_runAsTold_sp hT hC) (fun r σ1 g => ?_)
      obtain ⟨rfl, g1, g2, g3⟩ := g
      rw [if_pos is3_25, lt_eq, (g2.1.2.2.2.2.1 s' (by omega)).2.1, (min_24 h60).1]
      exact m6_write_loop hT (by omega) (by omega) d1 _ 0 (Nat.zero_add _) sy_FU (by show _ < 1000; omega) σ1 g1 g2 (fun b hb => (g3.2.2.2.2.2.2.2.2.2 b hb).2.1)
    · rw [if_neg (fun q => d1 ((sh_lost hsh).mp q)), if_neg d1]
      exact cl_pass (cl_found hC 1)
  · rw [if_neg c1, if_neg c1]
    exact ok_some ⟨rfl, clF.rf, hC⟩
theorem m7_write_loop {σ0 : St} {T : Td} {s m : Nat} (hT : okT T) (hs : s < 4) (hm : m ≤ 24) : ∀ (k n : Nat), n + k = m → ∀ f, k < f → ∀ σ, mdF σ0 σ → isMT σ (t_hwr T s n) → (∀ b, b < 24 → σ 72 b = rHB (sp_R T) b) → Ok (m7_write_L43 (fun y15 σ16 => some (y15, σ16)) f (nI s) (nI m) (nI n) σ) (fun y σ' => y = nI m ∧ mdF σ0 σ' ∧ isMT σ' (t_hwr T s m)) := by
  intro k
  induction k with
  | zero =>
    intro n hn f hf σ hF hM hR
    obtain ⟨f, rfl⟩ : ∃ m, f = m + 1 := ⟨f - 1, by omega⟩
    show Ok (m7_write_L43b _ _ _ _ _ σ) _
    unfold m7_write_L43b
    rw [if_pos (nI_le (by omega) (by omega))]
    rw [show n = m by omega] at hM
    exact ok_some ⟨rfl, hF, hM⟩
  | succ k ih =>
    intro n hn f hf' σ hF hM hR
    obtain ⟨f, rfl⟩ : ∃ m, f = m + 1 := ⟨f - 1, by omega⟩
    show Ok (m7_write_L43b _ _ _ _ _ σ) _
    unfold m7_write_L43b
    have e1 : σ 62 s = tF T s := by rw [(hM.2.2.2.1 s hs).1, (t_hwr_F T s n).1]
    have e2 : σ 72 n = rHB (sp_R T) n := hR n (by omega)
    rw [if_neg (nI_ge (by omega) (by omega))]
    simp (disch := omega) only [sy_ix, ix_nI, gd_nI, nI_60, nI_add, nI_1, m7_cut_eq, bd_some, lt_eq, e1, e2]
    refine ih (n + 1) (by omega) f (by omega) _ (fun q hq => by rw [sf_n (by omega)]; exact hF q hq) (mt_item (okT_hwr hT n) hM hs (by omega)) (fun b hb => by rw [sf_n (by omega)]; exact hR b hb)
theorem md_write {σ : St} {T : Td} (hT : okT T) (hM : isMT σ T) (s : Int32) : MD (m7_write s σ) σ (an_write T s).1 (an_write T s).2 := by
  unfold m7_write an_write
  rw [m7_isSheet_eq, bd_some, b01_0]
  by_cases c1 : 0 ≤ s ∧ s ≤ 3
  · rw [if_pos c1, if_pos c1]
    obtain ⟨s', hs', rfl⟩ := nI_rng (n := 3) (by omega) c1
    obtain ⟨o1, o2, o3⟩ := hM.2.2.2.1 s' (by omega)
    have h60 := (hT.2.2.2.2.2.2 s' (by omega)).1
    rw [show sy_ix (nI s') = s' from nI_clamp (by omega), gd_nI (by omega) (by omega), o1]
    by_cases d1 : 0 ≤ tF T s'
    · rw [if_pos d1, if_pos d1]
      refine ok_bd (m7_find_sp hT hM) (fun _ σ1 g => ?_)
      have m1 := g.1.MT hM
      rw [gd_nI (by omega) (by omega), (m1.2.2.2.1 s' (by omega)).2.1, m7_lesser_eq, bd_some, (min_24 h60).2]
      exact m7_write_loop hT (by omega) (by omega) _ 0 (Nat.zero_add _) sy_FU (by show _ < 1000; omega) σ1 g.1.md m1 (fun b hb => (g.2.2.2.2.2.2.2.2 b hb).2.1)
    · rw [if_neg d1, if_neg d1]
      exact md_pass (md_finds hM 1)
  · rw [if_neg c1, if_neg c1]
    exact ok_some ⟨rfl, mdF.rf, hM⟩
