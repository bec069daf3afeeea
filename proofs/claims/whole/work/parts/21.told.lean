/-! ===== all that is told ===== -/
/-- the two texts, the bag, the events, what was heard; of sheets: form (-1: lost), size, items; the latest finding -/
abbrev Td : Type := (Nat × (Nat → Nat)) × (Nat × (Nat → Nat)) × Nat × (Nat × (Nat → Nat) × (Nat → Nat)) × (Nat × (Nat → Nat) × (Nat → Nat)) × (Nat → Int32) × (Nat → Nat) × (Nat → Nat → Int32) × Int32
def tN (T : Td) (k : Nat) : Nat := if k = 0 then T.1.1 else T.2.1.1
def tB (T : Td) (k : Nat) : Nat → Nat := if k = 0 then T.1.2 else T.2.1.2
def tBag (T : Td) : Nat := T.2.2.1
def tE (T : Td) : Nat := T.2.2.2.1.1
def tKd (T : Td) : Nat → Nat := T.2.2.2.1.2.1
def tBt (T : Td) : Nat → Nat := T.2.2.2.1.2.2
def tH (T : Td) : Nat := T.2.2.2.2.1.1
def tHn (T : Td) : Nat → Nat := T.2.2.2.2.1.2.1
def tHi (T : Td) : Nat → Nat := T.2.2.2.2.1.2.2
def tF (T : Td) : Nat → Int32 := T.2.2.2.2.2.1
def tS (T : Td) : Nat → Nat := T.2.2.2.2.2.2.1
def tI (T : Td) : Nat → Nat → Int32 := T.2.2.2.2.2.2.2.1
def tL (T : Td) : Int32 := T.2.2.2.2.2.2.2.2
def okT (T : Td) : Prop := (∀ k, k < 2 → tN T k ≤ sp_room k ∧ ∀ j, j < tN T k → tB T k j < 256) ∧ tBag T < 100 ∧ tE T ≤ 8 ∧ (∀ e, e < tE T → tKd T e < 3 ∧ tBt T e < 24) ∧ tH T ≤ 8 ∧ (∀ j, j < tH T → tHn T j < 16 ∧ tHi T j < 3) ∧ ∀ s, s < 4 → tS T s ≤ 60 ∧ (tF T s = -1 ∨ ∃ f : Nat, f < 3 ∧ tF T s = nI f)
/-- the band as told -/
def sp_told (T : Td) : Bd := (sp_th 0 (tN T 0) (tB T 0), fun k => nI (sp_val 0 (tB T 0) 0 k), fun k => nI (sp_val 0 (tB T 0) 1 k), fun k => k, fun k => k, sp_th 1 (tN T 1) (tB T 1), sp_val 1 (tB T 1) 0, sp_val 1 (tB T 1) 1, nI (tBag T), tE T, tKd T, tBt T, 0, -1)
theorem okB_told {T : Td} (h : okT T) : okB (sp_told T) := by
  obtain ⟨h1, h2, h3, h4, h5, h6, h7⟩ := h
  have a := (sp_th_le (b := tB T 0) (h1 0 (by omega)).1).1
  have b := (sp_th_le (b := tB T 1) (h1 1 (by omega)).1).1
  exact ⟨a, b, h3, fun k hk => hk, fun s hs => ⟨hs, rfl⟩, fun k hk => rfl, fun i hi => ⟨sp_val_lt.1, sp_val_lt.2⟩, h4, Or.inl rfl⟩
/-- the reference holds what is told -/
def isMT (σ : St) (T : Td) : Prop := (σ 67 0 = nI (tN T 0) ∧ (∀ j, j < tN T 0 → σ 66 j = nI (tB T 0 j)) ∧ σ 67 1 = nI (tN T 1) ∧ ∀ j, j < tN T 1 → σ 66 (48 + j) = nI (tB T 1 j)) ∧ (σ 61 11 = nI (tBag T) ∧ σ 61 12 = nI (tE T) ∧ (∀ e, e < tE T → σ 70 (2 * e) = nI (tKd T e) ∧ σ 70 (2 * e + 1) = nI (tBt T e)) ∧ σ 61 14 = 0 ∧ σ 61 15 = -1) ∧ (σ 61 28 = nI (tH T) ∧ ∀ j, j < tH T → σ 79 (2 * j) = nI (tHn T j) ∧ σ 79 (2 * j + 1) = nI (tHi T j)) ∧ (∀ s, s < 4 → σ 62 s = tF T s ∧ σ 63 s = nI (tS T s) ∧ ∀ i, i < tS T s → σ 64 (60 * s + i) = tI T s i) ∧ σ 61 4 = tL T
/-- the reference's cells that are worked out anew: all else stays -/
def mWk (σ0 σ : St) : Prop := (∀ k, ¬ (k = 61 ∨ k = 65 ∨ k = 68 ∨ k = 69 ∨ (71 ≤ k ∧ k ≤ 78) ∨ k = 80) → σ k = σ0 k) ∧ ∀ j, (j = 4 ∨ j = 11 ∨ j = 12 ∨ j = 14 ∨ j = 15 ∨ j = 28) → σ 61 j = σ0 61 j
theorem mWk.rf {σ : St} : mWk σ σ := ⟨fun _ _ => rfl, fun _ _ => rfl⟩
theorem mWk.tr {a b c : St} (h : mWk a b) (g : mWk b c) : mWk a c := ⟨fun k q => (g.1 k q).trans (h.1 k q), fun j q => (g.2 j q).trans (h.2 j q)⟩
theorem mWk.MT {a b : St} {T : Td} (h : mWk a b) (g : isMT a T) : isMT b T := by
  unfold isMT
  rw [h.1 67 (by omega), h.1 66 (by omega), h.1 70 (by omega), h.1 79 (by omega), h.1 62 (by omega), h.1 63 (by omega), h.1 64 (by omega), h.2 11 (by omega), h.2 12 (by omega), h.2 14 (by omega), h.2 15 (by omega), h.2 28 (by omega), h.2 4 (by omega)]
  exact g
theorem mFr.wk {a b : St} (h : mFr a b) : mWk a b := ⟨fun k q => h.1 k (by omega), fun j q => h.2 j (by omega)⟩
theorem rpF.wk {a b : St} (h : rpF a b) : mWk a b := ⟨fun k q => h.1 k (by omega) (by omega), fun j q => h.2 j (by omega)⟩
theorem rnF.wk {a b : St} (h : rnF a b) : mWk a b := ⟨fun k q => h.1 k (by omega) (by omega), fun j q => h.2 j (by omega)⟩
theorem isMT.pl {σ : St} {T : Td} (hT : okT T) (h : isMT σ T) : Ok (m7_readsPlayers σ) (fun x σ' => x = sp_flt 0 (tN T 0) (tB T 0) ∧ rpF σ σ' ∧ σ' 61 7 = nI (sp_th 0 (tN T 0) (tB T 0)) ∧ ∀ i, i < sp_th 0 (tN T 0) (tB T 0) → σ' 68 (2 * i) = nI (sp_val 0 (tB T 0) 0 i) ∧ σ' 68 (2 * i + 1) = nI (sp_val 0 (tB T 0) 1 i)) :=
  m7_readsPlayers_sp (hT.1 0 (by omega)).1 h.1.1 (fun j hj => ⟨h.1.2.1 j hj, (hT.1 0 (by omega)).2 j hj⟩)
theorem isMT.nt {σ : St} {T : Td} (hT : okT T) (h : isMT σ T) : Ok (m7_readsNotes σ) (fun x σ' => x = sp_flt 1 (tN T 1) (tB T 1) ∧ rnF σ σ' ∧ σ' 61 9 = nI (sp_th 1 (tN T 1) (tB T 1)) ∧ ∀ i, i < sp_th 1 (tN T 1) (tB T 1) → σ' 69 (2 * i) = nI (sp_val 1 (tB T 1) 0 i) ∧ σ' 69 (2 * i + 1) = nI (sp_val 1 (tB T 1) 1 i)) :=
  m7_readsNotes_sp (hT.1 1 (by omega)).1 h.1.2.2.1 (fun j hj => ⟨h.1.2.2.2 j hj, (hT.1 1 (by omega)).2 j hj⟩)
theorem m7_seats_loop {σ0 : St} {Q : Unit → St → Prop} (E : St → Option (Unit × St)) (hE : ∀ σ, (∀ k, k ≠ 78 → σ k = σ0 k) → (∀ k, k < 11 → σ 78 k = nI k) → Ok (E σ) Q) : ∀ (k i : Nat), i + k = 11 → ∀ n, k < n → ∀ σ, (∀ k, k ≠ 78 → σ k = σ0 k) → (∀ k, k < i → σ 78 k = nI k) → Ok (m7_seats_L2 E n (nI i) σ) Q := by
  intro k
  induction k with
  | zero =>
    intro i hi n hn σ hF h
    obtain ⟨n, rfl⟩ : ∃ m, n = m + 1 := ⟨n - 1, by omega⟩
    show Ok (m7_seats_L2b _ _ _ σ) Q
    unfold m7_seats_L2b
    rw [show (11 : Int32) = nI 11 from rfl, if_pos (nI_le (by omega) (by omega))]
    rw [show i = 11 by omega] at h
    exact hE σ hF h
  | succ k ih =>
    intro i hi n hn σ hF h
    obtain ⟨n, rfl⟩ : ∃ m, n = m + 1 := ⟨n - 1, by omega⟩
    show Ok (m7_seats_L2b _ _ _ σ) Q
    unfold m7_seats_L2b
    rw [show (11 : Int32) = nI 11 from rfl, if_neg (nI_ge (by omega) (by omega))]
    simp (disch := omega) only [nI_1, gd_nI, sy_ix, ix_nI, lt_eq]
    refine ih (i + 1) (by omega) n (by omega) _ (fun q hq => ?_) (fun q hq => ?_)
    · rw [sf_n hq]; exact hF q hq
    · by_cases e : q = i
      · subst e; rw [sf_ss]
      · rw [sf_sn e]; exact h q (by omega)
theorem m7_seats_sp {σ : St} : Ok (m7_seats σ) (fun _ σ' => (∀ k, k ≠ 78 → σ' k = σ k) ∧ ∀ k, k < 11 → σ' 78 k = nI k) := by
  unfold m7_seats
  exact m7_seats_loop _ (fun σ1 h1 h2 => ok_some ⟨h1, h2⟩) 11 0 (by omega) sy_FU (by show _ < 1000; omega) σ (fun _ _ => rfl) (fun k hk => by omega)
/-- the reference has worked all out: texts, seats, beats -/
theorem m7_find_sp {σ : St} {T : Td} (hT : okT T) (h : isMT σ T) : Ok (m7_find σ) (fun _ σ' => mWk σ σ' ∧ isM σ' (sp_told T) ∧ mRun σ' (sp_told T)) := by
  have hB := okB_told hT
  unfold m7_find
  refine ok_bd (isMT.pl hT h) (fun _ σ1 h1 => ?_)
  have w1 := h1.2.1.wk
  have t1 := w1.MT h
  refine ok_bd (isMT.nt hT t1) (fun _ σ2 h2 => ?_)
  have w2 := h2.2.1.wk
  refine ok_bd m7_seats_sp (fun _ σ3 h3 => ?_)
  have w3 : mWk σ2 σ3 := ⟨fun k q => h3.1 k (by omega), fun j q => by rw [h3.1 61 (by omega)]⟩
  have w123 := (w1.tr w2).tr w3
  have t3 := w123.MT h
  have hM : isM σ3 (sp_told T) := by
    refine ⟨?_, fun k hk => ⟨?_, ?_, ?_⟩, ?_, fun i hi => ?_, t3.2.1.1, t3.2.1.2.1, t3.2.1.2.2.1, t3.2.1.2.2.2.1, t3.2.1.2.2.2.2⟩
    · rw [h3.1 61 (by omega), h2.2.1.2 7 (by omega)]; exact h1.2.2.1
    · rw [h3.1 68 (by omega), h2.2.1.1 68 (by omega) (by omega)]; exact (h1.2.2.2 k hk).1
    · rw [h3.1 68 (by omega), h2.2.1.1 68 (by omega) (by omega)]; exact (h1.2.2.2 k hk).2
    · exact h3.2 k (by have := hB.1; omega)
    · rw [h3.1 61 (by omega)]; exact h2.2.2.1
    · rw [h3.1 69 (by omega)]; exact h2.2.2.2 i hi
  exact ok_bd (m7_lives_sp hM hB) (fun _ σ4 h4 => ok_some ⟨w123.tr h4.1.wk, h4.1.isM hM, h4.2⟩)
