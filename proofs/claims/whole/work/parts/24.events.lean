/-! ===== promises 8 to 11, 23, 24 ===== -/
def t_bag (T : Td) (v : Nat) : Td := (T.1, T.2.1, v, T.2.2.2)
def t_ev (T : Td) (E : Nat) (kd bt : Nat → Nat) : Td := (T.1, T.2.1, T.2.2.1, (E, kd, bt), T.2.2.2.2)
def t_hd (T : Td) (H : Nat) (hn hi : Nat → Nat) : Td := (T.1, T.2.1, T.2.2.1, T.2.2.2.1, (H, hn, hi), T.2.2.2.2.2)
def an_bag (T : Td) (v : Int32) : Int32 × Td := if 1 ≤ v ∧ v ≤ 99 then (nI (tBag T), t_bag T (sy_ix v)) else (-2, T)
abbrev okE (k b : Int32) : Prop := (0 ≤ k ∧ k ≤ 2) ∧ (0 ≤ b ∧ b ≤ 23)
def t_add (T : Td) (k b : Nat) : Td := t_ev T (tE T + 1) (va_up (tKd T) (tE T) k) (va_up (tBt T) (tE T) b)
def an_event (T : Td) (k b : Int32) : Int32 × Td := if okE k b then (if tE T = 8 then (-4, T) else (nI (tE T + 1), t_add T (sy_ix k) (sy_ix b))) else (-2, T)
def an_back (T : Td) : Int32 × Td := if tE T = 0 then (-3, T) else (nI (tE T - 1), t_ev T (tE T - 1) (tKd T) (tBt T))
def an_hear (T : Td) (i h : Int32) : Int32 × Td := if (0 ≤ i ∧ i ≤ 15) ∧ (0 ≤ h ∧ h ≤ 2) then (if tH T = 8 then (-4, T) else (nI (tH T + 1), t_hd T (tH T + 1) (va_up (tHn T) (tH T) (sy_ix i)) (va_up (tHi T) (tH T) (sy_ix h)))) else (-2, T)
def an_forget (T : Td) : Int32 × Td := (nI (tH T), t_hd T 0 (tHn T) (tHi T))
theorem okT_bag {T : Td} {v : Nat} (hv : v < 100) (h : okT T) : okT (t_bag T v) := ⟨h.1, hv, h.2.2⟩
theorem okT_ev {T : Td} {E : Nat} {kd bt : Nat → Nat} (hE : E ≤ 8) (he : ∀ e, e < E → kd e < 3 ∧ bt e < 24) (h : okT T) : okT (t_ev T E kd bt) := ⟨h.1, h.2.1, hE, he, h.2.2.2.2⟩
theorem okT_hd {T : Td} {H : Nat} {hn hi : Nat → Nat} (hH : H ≤ 8) (hh : ∀ e, e < H → hn e < 16 ∧ hi e < 3) (h : okT T) : okT (t_hd T H hn hi) := ⟨h.1, h.2.1, h.2.2.1, h.2.2.2.1, hH, hh, h.2.2.2.2.2.2⟩
theorem okT_add {T : Td} {k b : Nat} (hk : k < 3) (hb : b < 24) (hE : tE T < 8) (h : okT T) : okT (t_add T k b) := by
  refine okT_ev (by omega) (fun e he => ?_) h
  unfold va_up
  by_cases c : e = tE T
  · rw [if_pos c, if_pos c]; exact ⟨hk, hb⟩
  · rw [if_neg c, if_neg c]; exact h.2.2.2.1 e (by omega)
theorem nI_rng1 {a : Int32} (h : 1 ≤ a ∧ a ≤ 99) : ∃ j : Nat, j < 100 ∧ a = nI j := by
  have h0 : 0 ≤ a := by
    have h1 := i32_le.mp h.1
    have e1 : (1 : Int32).toInt = 1 := by decide
    have e0 : (0 : Int32).toInt = 0 := by decide
    exact i32_le.mpr (by omega)
  obtain ⟨j, h1, h2⟩ := nI_rng (a := a) (n := 99) (by omega) ⟨h0, h.2⟩
  exact ⟨j, by omega, h2⟩
def sp_setEv (B : Bd) (E : Nat) (kd bt : Nat → Nat) : Bd := (bP B, bso B, ble B, bsi B, bwh B, bN B, bnb B, bnp B, bbag B, E, kd, bt, bg B, bod B)
theorem told_bag (T : Td) (v : Nat) : sp_told (t_bag T v) = sp_setBag (sp_told T) (nI v) := rfl
theorem told_ev (T : Td) (E : Nat) (kd bt : Nat → Nat) : sp_told (t_ev T E kd bt) = sp_setEv (sp_told T) E kd bt := rfl
theorem told_hd (T : Td) (H : Nat) (hn hi : Nat → Nat) : sp_told (t_hd T H hn hi) = sp_told T := rfl
theorem isB.bag {x y : St} {b : Nat} {B : Bd} {v : Int32} (h : ∀ k, b < k → k ≤ b + 9 → y k = x k) (h5 : ∀ j, j ≠ 9 → y b j = x b j) (h9 : y b 9 = v) (g : isB x b B) : isB y b (sp_setBag B v) := by
  obtain ⟨b0, b1, b2, b3, b4, b5, b6, b7, b8, b9⟩ := g
  unfold isB
  rw [h (b + 1) (by omega) (by omega), h (b + 2) (by omega) (by omega), h (b + 3) (by omega) (by omega), h (b + 4) (by omega) (by omega), h (b + 5) (by omega) (by omega), h (b + 6) (by omega) (by omega), h (b + 7) (by omega) (by omega), h (b + 8) (by omega) (by omega), h (b + 9) (by omega) (by omega), h5 0 (by omega), h5 5 (by omega), h5 10 (by omega), h5 13 (by omega), h5 14 (by omega), h9]
  exact ⟨b0, b1, b2, b3, b4, rfl, b6, b7, b8, b9⟩
theorem isB.ev {x y : St} {b : Nat} {B : Bd} {E : Nat} {kd bt : Nat → Nat} (h : ∀ k, b < k → k ≤ b + 7 → y k = x k) (h5 : ∀ j, j ≠ 10 → y b j = x b j) (h9 : y b 10 = nI E) (he : ∀ e, e < E → y (b + 8) e = nI (kd e) ∧ y (b + 9) e = nI (bt e)) (g : isB x b B) : isB y b (sp_setEv B E kd bt) := by
  obtain ⟨b0, b1, b2, b3, b4, b5, b6, b7, b8, b9⟩ := g
  unfold isB
  rw [h (b + 1) (by omega) (by omega), h (b + 2) (by omega) (by omega), h (b + 3) (by omega) (by omega), h (b + 4) (by omega) (by omega), h (b + 5) (by omega) (by omega), h (b + 6) (by omega) (by omega), h (b + 7) (by omega) (by omega), h5 0 (by omega), h5 5 (by omega), h5 9 (by omega), h5 13 (by omega), h5 14 (by omega), h9]
  exact ⟨b0, b1, b2, b3, b4, b5, rfl, he, b8, b9⟩
theorem cl_bag {σ : St} {T : Td} (hT : okT T) (hC : isCT σ T) (v : Int32) : CL (m6_bag v σ) σ (an_bag T v).1 (an_bag T v).2 := by
  unfold m6_bag an_bag
  rw [m6_within_eq, bd_some, b01_0]
  by_cases c : 1 ≤ v ∧ v ≤ 99
  · rw [if_pos c, if_pos c]
    obtain ⟨j, hj, rfl⟩ := nI_rng1 c
    simp (disch := omega) only [sy_ix, ix_nI, lt_eq]
    have h9 : σ 5 9 = nI (tBag T) := hC.1.2.2.1.2.2.2.2.2.1
    rw [h9]
    refine ok_bd m6_unlearn_sp (fun _ σ1 g => ok_some ⟨rfl, fun k hk => ?_, ?_, g.2.2 _⟩)
    · rw [g.1 k (by omega) (by omega), sf_n (by omega)]
    · obtain ⟨g1, g2, g3, g4, g5, g6⟩ := hC.1
      have k1 : ∀ k, k ≠ 0 → k ≠ 5 → ¬ (46 ≤ k ∧ k ≤ 49) → σ1 k = σ k := fun k p q z => by rw [g.1 k p z, sf_n q]
      have e5 : σ1 5 = sy_sf σ 5 9 (nI j) 5 := g.1 5 (by omega) (by omega)
      unfold isCS
      rw [told_bag]
      refine ⟨g1.of (k1 1 (by omega) (by omega) (by omega)) (k1 2 (by omega) (by omega) (by omega)), g2.of (k1 3 (by omega) (by omega) (by omega)) (k1 4 (by omega) (by omega) (by omega)), g3.bag (fun k p q => k1 k (by omega) (by omega) (by omega)) (fun i hi => by rw [e5, sf_sn hi]) (by rw [e5, sf_ss]), ?_, fun s hs => isSh.of (k1 _ (by omega) (by omega) (by omega)) (k1 _ (by omega) (by omega) (by omega)) (g5 s hs), ?_⟩
      · rw [k1 43 (by omega) (by omega) (by omega), k1 44 (by omega) (by omega) (by omega), k1 45 (by omega) (by omega) (by omega)]; exact g4
      · rw [g.2.1, sf_n (by omega)]; exact g6
  · rw [if_neg c, if_neg c]
    exact ok_some ⟨rfl, clF.rf, hC⟩
theorem md_bag {σ : St} {T : Td} (hT : okT T) (hM : isMT σ T) (v : Int32) : MD (m7_bag v σ) σ (an_bag T v).1 (an_bag T v).2 := by
  unfold m7_bag an_bag
  rw [show m7_in v.toInt64 1 99 σ = _ from m7_in32 v 1 99 σ, bd_some, b01_0]
  by_cases c : 1 ≤ v ∧ v ≤ 99
  · rw [if_pos c, if_pos c]
    obtain ⟨j, hj, rfl⟩ := nI_rng1 c
    obtain ⟨g1, ⟨a1, a2, a3, a4, a5⟩, ⟨b1, b2⟩, g4, g5⟩ := hM
    simp (disch := omega) only [sy_ix, ix_nI, lt_eq, a1]
    refine ok_some ⟨rfl, fun q hq => sf_n (by omega), ?_, ⟨sf_ss _ _ _ _, ?_, ?_, ?_, ?_⟩, ⟨?_, ?_⟩, ?_, ?_⟩
    · rw [sf_n (by omega), sf_n (by omega)]; exact g1
    · show sy_sf _ _ _ _ 61 12 = _
      rw [sf_sn (by omega)]; exact a2
    · rw [sf_n (by omega)]; exact a3
    · show sy_sf _ _ _ _ 61 14 = _
      rw [sf_sn (by omega)]; exact a4
    · show sy_sf _ _ _ _ 61 15 = _
      rw [sf_sn (by omega)]; exact a5
    · show sy_sf _ _ _ _ 61 28 = _
      rw [sf_sn (by omega)]; exact b1
    · rw [sf_n (by omega)]; exact b2
    · rw [sf_n (by omega), sf_n (by omega), sf_n (by omega)]; exact g4
    · show sy_sf _ _ _ _ 61 4 = _
      rw [sf_sn (by omega)]; exact g5
  · rw [if_neg c, if_neg c]
    exact ok_some ⟨rfl, mdF.rf, hM⟩
theorem m6_isEvent_eq (k b : Int32) (σ : St) : m6_isEvent k b σ = some (b01 (okE k b), σ) := by
  unfold m6_isEvent
  rw [m6_within_eq, bd_some, b01_0]
  by_cases c1 : 0 ≤ k ∧ k ≤ 2
  · rw [if_pos c1, m6_within_eq, bd_some, b01_0]
    by_cases c2 : 0 ≤ b ∧ b ≤ 23
    · rw [if_pos c2, zg_1]; unfold b01; rw [if_pos (And.intro c1 c2)]
    · rw [if_neg c2, zg_0]; unfold b01; rw [if_neg (fun q => c2 q.2)]
  · rw [if_neg c1, zg_0]; unfold b01; rw [if_neg (fun q => c1 q.1)]
/-- the class's told events: another row -/
theorem cs_ev {σ σ1 : St} {T : Td} {E : Nat} {kd bt : Nat → Nat} (hC : isCS σ T) (hF : ∀ k, k ≠ 5 → k ≠ 13 → k ≠ 14 → k ≠ 0 → ¬ (46 ≤ k ∧ k ≤ 49) → σ1 k = σ k) (h0 : σ1 0 16 = σ 0 16) (h5 : ∀ j, j ≠ 10 → σ1 5 j = σ 5 j) (h10 : σ1 5 10 = nI E) (he : ∀ e, e < E → σ1 13 e = nI (kd e) ∧ σ1 14 e = nI (bt e)) : isCS σ1 (t_ev T E kd bt) := by
  obtain ⟨g1, g2, g3, g4, g5, g6⟩ := hC
  unfold isCS
  rw [told_ev]
  refine ⟨g1.of (hF 1 (by omega) (by omega) (by omega) (by omega) (by omega)) (hF 2 (by omega) (by omega) (by omega) (by omega) (by omega)), g2.of (hF 3 (by omega) (by omega) (by omega) (by omega) (by omega)) (hF 4 (by omega) (by omega) (by omega) (by omega) (by omega)), g3.ev (fun k p q => hF k (by omega) (by omega) (by omega) (by omega) (by omega)) h5 h10 he, ?_, fun s hs => isSh.of (hF _ (by omega) (by omega) (by omega) (by omega) (by omega)) (hF _ (by omega) (by omega) (by omega) (by omega) (by omega)) (g5 s hs), ?_⟩
  · rw [hF 43 (by omega) (by omega) (by omega) (by omega) (by omega), hF 44 (by omega) (by omega) (by omega) (by omega) (by omega), hF 45 (by omega) (by omega) (by omega) (by omega) (by omega)]; exact g4
  · rw [h0]; exact g6
theorem m0_addEvent_sp {σ : St} {T : Td} (hT : okT T) (hC : isCS σ T) (k b : Int32) : Ok (m0_addEvent 5 k b σ) (fun x σ' => (∀ q, q ≠ 5 → q ≠ 13 → q ≠ 14 → σ' q = σ q) ∧ (if okE k b ∧ tE T < 8 then x = 1 ∧ isCS σ' (t_add T (sy_ix k) (sy_ix b)) else x = 0 ∧ σ' = σ)) := by
  have h10 : σ 5 10 = nI (tE T) := hC.2.2.1.2.2.2.2.2.2.1
  have hE := hT.2.2.1
  unfold m0_addEvent
  rw [h10, show (8 : Int32) = nI 8 from rfl]
  by_cases c8 : tE T < 8
  · rw [if_neg (nI_ge c8 (by omega)), m6_isEvent_eq, bd_some, b01_0]
    by_cases ce : okE k b
    · rw [if_pos ce]
      obtain ⟨k', hk', rfl⟩ := nI_rng (n := 2) (by omega) ce.1
      obtain ⟨b', hb', rfl⟩ := nI_rng (n := 23) (by omega) ce.2
      simp (disch := omega) only [sy_ix, ix_nI, gd_nI, h10, lt_eq, sf_n, nI_1, zg_1]
      refine ok_some ⟨fun q p1 p2 p3 => by rw [sf_n p1, sf_n (by omega), sf_n (by omega)], ?_⟩
      rw [if_pos ⟨ce, c8⟩]
      refine ⟨rfl, cs_ev hC (fun q p1 p2 p3 _ _ => by rw [sf_n p1, sf_n (by omega), sf_n (by omega)]) (by rw [sf_n (by omega), sf_n (by omega), sf_n (by omega)]) (fun j hj => by rw [sf_sn hj, sf_n (by omega), sf_n (by omega)]) (sf_ss _ _ _ _) (fun e he => ?_)⟩
      have old := hC.2.2.1.2.2.2.2.2.2.2.1
      simp only [sf_at]; simp
      unfold va_up
      by_cases z : e = tE T
      · simp [z]
      · simp [z]
        exact old e (by show e < tE T; omega)
    · rw [if_neg ce, zg_0]
      refine ok_some ⟨fun _ _ _ _ => rfl, ?_⟩
      rw [if_neg (fun q => ce q.1)]
      exact ⟨rfl, rfl⟩
  · rw [if_pos (nI_le (by omega) (by omega)), zg_0]
    refine ok_some ⟨fun _ _ _ _ => rfl, ?_⟩
    rw [if_neg (fun q => c8 q.2)]
    exact ⟨rfl, rfl⟩
/-- behind unlearning the class holds what is told -/
theorem cl_un {σ σ0 : St} {T : Td} (hC : isCS σ T) (hF : clF σ0 σ) : Ok (m6_unlearn σ) (fun _ σ' => clF σ0 σ' ∧ isCT σ' T ∧ σ' 5 = σ 5) := by
  refine ok_mono m6_unlearn_sp (fun _ σ' g => ⟨fun k hk => ?_, ⟨hC.of (fun k hk => g.1 k (by omega) (by omega)) g.2.1, g.2.2 T⟩, g.1 5 (by omega) (by omega)⟩)
  rw [g.1 k (by omega) (by omega)]; exact hF k hk
theorem cl_event {σ : St} {T : Td} (hT : okT T) (hC : isCT σ T) (k b : Int32) : CL (m6_event k b σ) σ (an_event T k b).1 (an_event T k b).2 := by
  have hE := hT.2.2.1
  unfold m6_event an_event
  rw [m6_isEvent_eq, bd_some, b01_0]
  by_cases ce : okE k b
  · rw [if_pos ce, if_pos ce]
    refine ok_bd (m0_addEvent_sp hT hC.1 k b) (fun x σ1 g => ?_)
    by_cases c8 : tE T = 8
    · have g2 := g.2
      rw [if_neg (fun q => by have := q.2; omega)] at g2
      obtain ⟨rfl, rfl⟩ := g2
      rw [if_pos c8]
      exact ok_some ⟨rfl, clF.rf, hC⟩
    · have g2 := g.2
      rw [if_pos ⟨ce, by omega⟩] at g2
      obtain ⟨rfl, g3⟩ := g2
      rw [if_neg c8, if_neg (by decide)]
      refine ok_bd (cl_un (σ0 := σ) g3 (fun q hq => g.1 q (by omega) (by omega) (by omega))) (fun _ σ2 z => ok_some ⟨?_, z.1, z.2.1⟩)
      exact z.2.1.1.2.2.1.2.2.2.2.2.2.1
  · rw [if_neg ce, if_neg ce]
    exact ok_some ⟨rfl, clF.rf, hC⟩
theorem cl_back {σ : St} {T : Td} (hT : okT T) (hC : isCT σ T) : CL (m6_back σ) σ (an_back T).1 (an_back T).2 := by
  have hE := hT.2.2.1
  have h10 : σ 5 10 = nI (tE T) := hC.1.2.2.1.2.2.2.2.2.2.1
  unfold m6_back an_back
  rw [h10]
  by_cases c : tE T = 0
  · rw [if_pos ((nI_e0 (by omega)).mpr c), if_pos c]
    exact ok_some ⟨rfl, clF.rf, hC⟩
  · rw [if_neg (fun q => c ((nI_e0 (by omega)).mp q)), if_neg c, lt_eq, show nI (tE T) - 1 = nI (tE T - 1) from pk_sub (b := 1) (by omega)]
    have old := hC.1.2.2.1.2.2.2.2.2.2.2.1
    have g3 : isCS (sy_sf σ 5 10 (nI (tE T - 1))) (t_ev T (tE T - 1) (tKd T) (tBt T)) := cs_ev hC.1 (fun q p1 _ _ _ _ => sf_n p1) (by rw [sf_n (by omega)]) (fun j hj => sf_sn hj) (sf_ss _ _ _ _) (fun e he => by rw [sf_n (by omega), sf_n (by omega)]; exact old e (by show e < tE T; omega))
    refine ok_bd (cl_un (σ0 := σ) g3 (fun q hq => sf_n (by omega))) (fun _ σ2 z => ok_some ⟨?_, z.1, z.2.1⟩)
    exact z.2.1.1.2.2.1.2.2.2.2.2.2.1
/-- the reference's told events: another row -/
theorem mt_ev {σ σ1 : St} {T : Td} {E : Nat} {kd bt : Nat → Nat} (hM : isMT σ T) (hF : ∀ k, k ≠ 61 → k ≠ 70 → σ1 k = σ k) (h61 : ∀ j, j ≠ 12 → σ1 61 j = σ 61 j) (h12 : σ1 61 12 = nI E) (he : ∀ e, e < E → σ1 70 (2 * e) = nI (kd e) ∧ σ1 70 (2 * e + 1) = nI (bt e)) : isMT σ1 (t_ev T E kd bt) := by
  obtain ⟨g1, ⟨a1, a2, a3, a4, a5⟩, ⟨b1, b2⟩, g4, g5⟩ := hM
  refine ⟨?_, ⟨?_, h12, he, ?_, ?_⟩, ⟨?_, ?_⟩, ?_, ?_⟩
  · rw [hF 67 (by omega) (by omega), hF 66 (by omega) (by omega)]; exact g1
  · rw [h61 11 (by omega)]; exact a1
  · rw [h61 14 (by omega)]; exact a4
  · rw [h61 15 (by omega)]; exact a5
  · rw [h61 28 (by omega)]; exact b1
  · rw [hF 79 (by omega) (by omega)]; exact b2
  · rw [hF 62 (by omega) (by omega), hF 63 (by omega) (by omega), hF 64 (by omega) (by omega)]; exact g4
  · rw [h61 4 (by omega)]; exact g5
theorem md_event {σ : St} {T : Td} (hT : okT T) (hM : isMT σ T) (k b : Int32) : MD (m7_event k b σ) σ (an_event T k b).1 (an_event T k b).2 := by
  have hE := hT.2.2.1
  have h12 : σ 61 12 = nI (tE T) := hM.2.1.2.1
  unfold m7_event an_event
  rw [show m7_in k.toInt64 0 2 σ = _ from m7_in32 k 0 2 σ, bd_some, b01_0]
  by_cases c1 : 0 ≤ k ∧ k ≤ 2
  · rw [if_pos c1, m7_isBeat_eq, bd_some, b01_0]
    by_cases c2 : 0 ≤ b ∧ b ≤ 23
    · rw [if_pos c2, if_pos (And.intro c1 c2), h12, show (8 : Int32) = nI 8 from rfl]
      by_cases c8 : tE T = 8
      · rw [if_pos (by rw [c8]), if_pos c8]
        exact ok_some ⟨rfl, mdF.rf, hM⟩
      · rw [if_neg (fun q => c8 ((nI_eq (by omega) (by omega)).mp q)), if_neg c8]
        obtain ⟨k', hk', rfl⟩ := nI_rng (n := 2) (by omega) c1
        obtain ⟨b', hb', rfl⟩ := nI_rng (n := 23) (by omega) c2
        simp (disch := omega) only [sy_ix, ix_nI, gd_nI, h12, lt_eq, sf_n, nI_1, nI_2]
        rw [sf_ss]
        refine ok_some ⟨rfl, fun q hq => by rw [sf_n (by omega), sf_n (by omega), sf_n (by omega)], mt_ev hM (fun q p1 p2 => by rw [sf_n p1, sf_n p2, sf_n p2]) (fun j hj => by rw [sf_sn hj, sf_n (by omega), sf_n (by omega)]) (sf_ss _ _ _ _) (fun e he => ?_)⟩
        have old := hM.2.1.2.2.1
        unfold va_up
        by_cases z : e = tE T
        · subst z
          refine ⟨?_, ?_⟩
          · rw [sf_n (by omega), sf_sn (by omega), sf_ss, if_pos rfl]
          · rw [sf_n (by omega), sf_ss, if_pos rfl]
        · have := old e (by omega)
          refine ⟨?_, ?_⟩
          · rw [sf_n (by omega), sf_sn (by omega), sf_sn (by omega), if_neg z]; exact this.1
          · rw [sf_n (by omega), sf_sn (by omega), sf_sn (by omega), if_neg z]; exact this.2
    · rw [if_neg c2, if_neg (fun q => c2 q.2)]
      exact ok_some ⟨rfl, mdF.rf, hM⟩
  · rw [if_neg c1, if_neg (fun q => c1 q.1)]
    exact ok_some ⟨rfl, mdF.rf, hM⟩
theorem md_back {σ : St} {T : Td} (hT : okT T) (hM : isMT σ T) : MD (m7_back σ) σ (an_back T).1 (an_back T).2 := by
  have hE := hT.2.2.1
  have h12 : σ 61 12 = nI (tE T) := hM.2.1.2.1
  unfold m7_back an_back
  rw [h12]
  by_cases c : tE T = 0
  · rw [if_pos ((nI_e0 (by omega)).mpr c), if_pos c]
    exact ok_some ⟨rfl, mdF.rf, hM⟩
  · rw [if_neg (fun q => c ((nI_e0 (by omega)).mp q)), if_neg c, lt_eq, show nI (tE T) - 1 = nI (tE T - 1) from pk_sub (b := 1) (by omega), sf_ss]
    exact ok_some ⟨rfl, fun q hq => sf_n (by omega), mt_ev hM (fun q p1 _ => sf_n p1) (fun j hj => sf_sn hj) (sf_ss _ _ _ _) (fun e he => by rw [sf_n (by omega)]; exact hM.2.1.2.2.1 e (by omega))⟩
theorem an_bag_ok {T : Td} (hT : okT T) (v : Int32) : okT (an_bag T v).2 := by
  unfold an_bag
  split
  · rename_i c
    obtain ⟨j, hj, rfl⟩ := nI_rng1 c
    simp (disch := omega) only [sy_ix, ix_nI]
    exact okT_bag hj hT
  · exact hT
theorem an_event_ok {T : Td} (hT : okT T) (k b : Int32) : okT (an_event T k b).2 := by
  unfold an_event
  have hE := hT.2.2.1
  split
  · rename_i c
    obtain ⟨k', hk', rfl⟩ := nI_rng (n := 2) (by omega) c.1
    obtain ⟨b', hb', rfl⟩ := nI_rng (n := 23) (by omega) c.2
    simp (disch := omega) only [sy_ix, ix_nI]
    split
    · exact hT
    · exact okT_add (by omega) (by omega) (by omega) hT
  · exact hT
theorem an_back_ok {T : Td} (hT : okT T) : okT (an_back T).2 := by
  unfold an_back
  have hE := hT.2.2.1
  split
  · exact hT
  · exact okT_ev (by omega) (fun e he => hT.2.2.2.1 e (by omega)) hT
/-- the class's told ear: another row -/
theorem ct_hd {σ σ1 : St} {T : Td} {H : Nat} {hn hi : Nat → Nat} (hC : isCT σ T) (hF : ∀ k, k ≠ 43 → k ≠ 44 → k ≠ 45 → σ1 k = σ k) (h2 : σ1 43 2 = nI H) (he : ∀ e, e < H → σ1 44 e = nI (hn e) ∧ σ1 45 e = nI (hi e)) : isCT σ1 (t_hd T H hn hi) := by
  obtain ⟨⟨g1, g2, g3, g4, g5, g6⟩, gc⟩ := hC
  refine ⟨?_, ?_⟩
  · unfold isCS
    rw [told_hd]
    exact ⟨g1.of (hF 1 (by omega) (by omega) (by omega)) (hF 2 (by omega) (by omega) (by omega)), g2.of (hF 3 (by omega) (by omega) (by omega)) (hF 4 (by omega) (by omega) (by omega)), g3.of (fun k p q => hF k (by omega) (by omega) (by omega)), ⟨h2, he⟩, fun s hs => isSh.of (hF _ (by omega) (by omega) (by omega)) (hF _ (by omega) (by omega) (by omega)) (g5 s hs), by rw [hF 0 (by omega) (by omega) (by omega)]; exact g6⟩
  · obtain ⟨c1, c2, c3, c4, c5, c6⟩ := gc
    unfold isCC sp_fill sp_swap sp_hold at *
    rw [told_hd, hF 0 (by omega) (by omega) (by omega), hF 46 (by omega) (by omega) (by omega), hF 47 (by omega) (by omega) (by omega), hF 48 (by omega) (by omega) (by omega), hF 49 (by omega) (by omega) (by omega), hF 50 (by omega) (by omega) (by omega)]
    refine ⟨?_, c2, c3, c4, c5, c6⟩
    rcases c1 with q | ⟨q1, q2⟩
    · exact Or.inl q
    · exact Or.inr ⟨q1, q2.of (fun k p q => hF k (by omega) (by omega) (by omega))⟩
theorem cl_hear {σ : St} {T : Td} (hT : okT T) (hC : isCT σ T) (i h : Int32) : CL (m6_hear i h σ) σ (an_hear T i h).1 (an_hear T i h).2 := by
  have hH := hT.2.2.2.2.1
  obtain ⟨e2, e3⟩ := hC.1.2.2.2.1
  unfold m6_hear an_hear
  rw [m6_within_eq, bd_some, b01_0]
  by_cases c1 : 0 ≤ i ∧ i ≤ 15
  · rw [if_pos c1, m6_within_eq, bd_some, b01_0]
    by_cases c2 : 0 ≤ h ∧ h ≤ 2
    · rw [if_pos c2, if_pos (And.intro c1 c2)]
      obtain ⟨i', hi', rfl⟩ := nI_rng (n := 15) (by omega) c1
      obtain ⟨h', hh', rfl⟩ := nI_rng (n := 2) (by omega) c2
      unfold m2_remember
      rw [e2, show (8 : Int32) = nI 8 from rfl]
      by_cases c8 : tH T = 8
      · rw [if_neg (nI_nlt (by omega) (by omega)), zg_0, bd_some, if_pos rfl, if_pos c8]
        exact ok_some ⟨rfl, clF.rf, hC⟩
      · rw [if_pos (nI_lt (by omega) (by omega)), if_neg c8]
        simp (disch := omega) only [sy_ix, ix_nI, gd_nI, e2, lt_eq, sf_n, nI_1, zg_1, bd_some]
        rw [if_neg (by decide), sf_ss]
        refine ok_some ⟨rfl, fun q hq => by rw [sf_n (by omega), sf_n (by omega), sf_n (by omega)], ct_hd hC (fun q p1 p2 p3 => by rw [sf_n p1, sf_n (by omega), sf_n (by omega)]) (sf_ss _ _ _ _) (fun e he => ?_)⟩
        unfold va_up
        simp only [sf_at]; simp
        by_cases z : e = tH T
        · simp [z]
        · simp [z]
          exact e3 e (by omega)
    · rw [if_neg c2, if_neg (fun q => c2 q.2)]
      exact ok_some ⟨rfl, clF.rf, hC⟩
  · rw [if_neg c1, if_neg (fun q => c1 q.1)]
    exact ok_some ⟨rfl, clF.rf, hC⟩
theorem cl_forget {σ : St} {T : Td} (hT : okT T) (hC : isCT σ T) : CL (m6_forget σ) σ (an_forget T).1 (an_forget T).2 := by
  obtain ⟨e2, e3⟩ := hC.1.2.2.2.1
  unfold m6_forget an_forget
  rw [lt_eq, lt_eq, e2]
  exact ok_some ⟨rfl, fun q hq => sf_n (by omega), ct_hd hC (fun q p1 p2 p3 => sf_n p1) (sf_ss _ _ _ _) (fun e he => by omega)⟩
theorem mt_hd {σ σ1 : St} {T : Td} {H : Nat} {hn hi : Nat → Nat} (hM : isMT σ T) (hF : ∀ k, k ≠ 61 → k ≠ 79 → σ1 k = σ k) (h61 : ∀ j, j ≠ 28 → σ1 61 j = σ 61 j) (h28 : σ1 61 28 = nI H) (he : ∀ e, e < H → σ1 79 (2 * e) = nI (hn e) ∧ σ1 79 (2 * e + 1) = nI (hi e)) : isMT σ1 (t_hd T H hn hi) := by
  obtain ⟨g1, ⟨a1, a2, a3, a4, a5⟩, ⟨b1, b2⟩, g4, g5⟩ := hM
  refine ⟨?_, ⟨?_, ?_, ?_, ?_, ?_⟩, ⟨h28, he⟩, ?_, ?_⟩
  · rw [hF 67 (by omega) (by omega), hF 66 (by omega) (by omega)]; exact g1
  · rw [h61 11 (by omega)]; exact a1
  · rw [h61 12 (by omega)]; exact a2
  · rw [hF 70 (by omega) (by omega)]; exact a3
  · rw [h61 14 (by omega)]; exact a4
  · rw [h61 15 (by omega)]; exact a5
  · rw [hF 62 (by omega) (by omega), hF 63 (by omega) (by omega), hF 64 (by omega) (by omega)]; exact g4
  · rw [h61 4 (by omega)]; exact g5
theorem md_hear {σ : St} {T : Td} (hT : okT T) (hM : isMT σ T) (i h : Int32) : MD (m7_hear i h σ) σ (an_hear T i h).1 (an_hear T i h).2 := by
  have hH := hT.2.2.2.2.1
  obtain ⟨e2, e3⟩ := hM.2.2.1
  unfold m7_hear an_hear
  rw [show m7_in i.toInt64 0 15 σ = _ from m7_in32 i 0 15 σ, bd_some, b01_0]
  by_cases c1 : 0 ≤ i ∧ i ≤ 15
  · rw [if_pos c1, show m7_in h.toInt64 0 2 σ = _ from m7_in32 h 0 2 σ, bd_some, b01_0]
    by_cases c2 : 0 ≤ h ∧ h ≤ 2
    · rw [if_pos c2, if_pos (And.intro c1 c2)]
      obtain ⟨i', hi', rfl⟩ := nI_rng (n := 15) (by omega) c1
      obtain ⟨h', hh', rfl⟩ := nI_rng (n := 2) (by omega) c2
      rw [e2, show (8 : Int32) = nI 8 from rfl]
      by_cases c8 : tH T = 8
      · rw [if_pos (by rw [c8]), if_pos c8]
        exact ok_some ⟨rfl, mdF.rf, hM⟩
      · rw [if_neg (fun q => c8 ((nI_eq (by omega) (by omega)).mp q)), if_neg c8]
        simp (disch := omega) only [sy_ix, ix_nI, gd_nI, e2, lt_eq, sf_n, nI_1, nI_2]
        rw [sf_ss]
        refine ok_some ⟨rfl, fun q hq => by rw [sf_n (by omega), sf_n (by omega), sf_n (by omega)], mt_hd hM (fun q p1 p2 => by rw [sf_n p1, sf_n p2, sf_n p2]) (fun j hj => by rw [sf_sn hj, sf_n (by omega), sf_n (by omega)]) (sf_ss _ _ _ _) (fun e he => ?_)⟩
        unfold va_up
        by_cases z : e = tH T
        · subst z
          refine ⟨?_, ?_⟩
          · rw [sf_n (by omega), sf_sn (by omega), sf_ss, if_pos rfl]
          · rw [sf_n (by omega), sf_ss, if_pos rfl]
        · have := e3 e (by omega)
          refine ⟨?_, ?_⟩
          · rw [sf_n (by omega), sf_sn (by omega), sf_sn (by omega), if_neg z]; exact this.1
          · rw [sf_n (by omega), sf_sn (by omega), sf_sn (by omega), if_neg z]; exact this.2
    · rw [if_neg c2, if_neg (fun q => c2 q.2)]
      exact ok_some ⟨rfl, mdF.rf, hM⟩
  · rw [if_neg c1, if_neg (fun q => c1 q.1)]
    exact ok_some ⟨rfl, mdF.rf, hM⟩
theorem md_forget {σ : St} {T : Td} (hT : okT T) (hM : isMT σ T) : MD (m7_forget σ) σ (an_forget T).1 (an_forget T).2 := by
  unfold m7_forget an_forget
  rw [lt_eq, lt_eq, hM.2.2.1.1]
  exact ok_some ⟨rfl, fun q hq => sf_n (by omega), mt_hd hM (fun q p1 p2 => sf_n p1) (fun j hj => sf_sn hj) (sf_ss _ _ _ _) (fun e he => by omega)⟩
theorem an_hear_ok {T : Td} (hT : okT T) (i h : Int32) : okT (an_hear T i h).2 := by
  unfold an_hear
  have hH := hT.2.2.2.2.1
  split
  · rename_i c
    obtain ⟨k', hk', rfl⟩ := nI_rng (n := 15) (by omega) c.1
    obtain ⟨b', hb', rfl⟩ := nI_rng (n := 2) (by omega) c.2
    simp (disch := omega) only [sy_ix, ix_nI]
    split
    · exact hT
    · refine okT_hd (by omega) (fun e he => ?_) hT
      unfold va_up
      by_cases z : e = tH T
      · rw [if_pos z, if_pos z]; omega
      · rw [if_neg z, if_neg z]; exact hT.2.2.2.2.2.1 e (by omega)
  · exact hT
theorem an_forget_ok {T : Td} (hT : okT T) : okT (an_forget T).2 := okT_hd (by omega) (fun e he => by omega) hT
