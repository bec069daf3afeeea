/-! ===== how many sound, which, what is missed: out of what became of each note ===== -/
def sp_cs (st : Nat → Int32) : Nat → Int32
  | 0 => 0
  | i + 1 => if st i ≤ 0 then sp_cs st i else sp_cs st i + 1
theorem sp_cs_low {st : Nat → Int32} {i : Nat} {v : Int32} : ∀ n, n ≤ i → sp_cs (upd st i v) n = sp_cs st n
  | 0, _ => rfl
  | n + 1, h => by
    show (if upd st i v n ≤ 0 then sp_cs (upd st i v) n else sp_cs (upd st i v) n + 1) = _
    rw [sp_cs_low n (by omega), pk_un (by omega)]
    rfl
theorem sp_cs_up {st : Nat → Int32} {i : Nat} {v : Int32} (hz : st i = 0) (hv : ¬ v ≤ 0) : ∀ n, i < n → sp_cs (upd st i v) n = sp_cs st n + 1
  | 0, h => by omega
  | n + 1, h => by
    show (if upd st i v n ≤ 0 then sp_cs (upd st i v) n else sp_cs (upd st i v) n + 1) = (if st n ≤ 0 then sp_cs st n else sp_cs st n + 1) + 1
    by_cases e : n = i
    · subst e
      rw [pk_us, if_neg hv, sp_cs_low n (Nat.le_refl n), hz, if_pos (by decide)]
    · rw [pk_un e, sp_cs_up hz hv n (by omega)]
      split <;> rfl
/-- the counts agree with what became of the notes -/
def sp_ag (B : Bd) (r : Rs) : Prop := rSnd r = sp_cs (rSt r) (bN B) ∧ (∃ m : Nat, m < 2 ^ 16 ∧ rBit r = nI m ∧ ∀ i, m.testBit i = decide (¬ rSt r i ≤ 0)) ∧ ∀ i, rSt r i = 0 ∨ rSt r i = 1 ∨ rSt r i = 2
theorem sp_ag_blow {B : Bd} {i : Nat} {r : Rs} (hN : bN B ≤ 16) (hi : i < bN B) (hz : rSt r i = 0) (h : sp_ag B r) : sp_ag B (sp_blow B i r) := by
  unfold sp_blow
  split
  · split
    · obtain ⟨h1, ⟨m, a1, a2, a3⟩, h3⟩ := h
      have hv : ∀ c : Prop, ∀ [Decidable c], ¬ ((if c then (2 : Int32) else 1) ≤ 0) := by
        intro c _
        split <;> decide
      refine ⟨?_, ⟨m ||| 2 ^ i, ?_, ?_, fun j => ?_⟩, fun j => ?_⟩
      · show rSnd r + 1 = sp_cs (upd (rSt r) i _) (bN B)
        rw [sp_cs_up hz (hv _) _ hi, h1]
      · exact Nat.or_lt_two_pow a1 (Nat.pow_lt_pow_right (by omega) (by omega))
      · show rBit r ||| (1 <<< (nI i &&& 31)) = _
        rw [a2, sh_1 (by omega), nI_or]
      · show _ = decide (¬ upd (rSt r) i _ j ≤ 0)
        rw [or_tb, a3]
        by_cases e : j = i
        · subst e
          rw [pk_us, decide_eq_true (rfl : j = j), Bool.or_true]
          exact (decide_eq_true (hv _)).symm
        · rw [pk_un e, decide_eq_false (p := i = j) (fun q => e q.symm), Bool.or_false]
      · show upd (rSt r) i _ j = 0 ∨ upd (rSt r) i _ j = 1 ∨ upd (rSt r) i _ j = 2
        by_cases e : j = i
        · subst e
          rw [pk_us]
          split
          · exact Or.inr (Or.inr rfl)
          · exact Or.inr (Or.inl rfl)
        · rw [pk_un e]; exact h3 j
    · exact h
  · exact h
theorem sp_ag_all {B : Bd} {t : Nat} {r : Rs} (hN : bN B ≤ 16) (hz : ∀ j, j < bN B → t ≤ bnb B j → rSt r j = 0) (h : sp_ag B r) : ∀ n, n ≤ bN B → sp_ag B (sp_all B t n r)
  | 0, _ => h
  | n + 1, hn => by
    have ih := sp_ag_all hN hz h n (by omega)
    unfold sp_all
    split
    · rename_i hb
      exact sp_ag_blow hN (by omega) (by rw [sp_all_st n r n (Or.inl (Nat.le_refl n))]; exact hz n (by omega) (by omega)) ih
    · exact ih
theorem sp_ag_pass {B : Bd} {t : Nat} {r : Rs} (h : sp_ag B r) : sp_ag B (sp_pass B t r) := by
  unfold sp_pass
  split
  · exact h
  · exact h
theorem sp_ag_run {B : Bd} (hN : bN B ≤ 16) : ∀ t, sp_ag B (sp_run B t)
  | 0 => by
    refine ⟨?_, ⟨0, by omega, rfl, fun i => ?_⟩, fun i => Or.inl rfl⟩
    · show (0 : Int32) = sp_cs (fun _ => 0) (bN B)
      have : ∀ n, sp_cs (fun _ => 0) n = 0 := by
        intro n
        induction n with
        | zero => rfl
        | succ n ih =>
          show (if (0 : Int32) ≤ 0 then sp_cs (fun _ => 0) n else _) = 0
          rw [if_pos (by decide)]; exact ih
      rw [this]
    · show Nat.testBit 0 i = decide (¬ ((0 : Int32) ≤ 0))
      rw [Nat.zero_testBit]; decide
  | t + 1 => by
    have ih := sp_ag_run hN t
    have h1 : sp_ag B (sp_all B t (bN B) (sp_steal B t (sp_run B t))) := sp_ag_all (r := sp_steal B t (sp_run B t)) hN (fun j _ h => sp_run_st t j h) (show sp_ag B (sp_steal B t (sp_run B t)) from ih) _ (Nat.le_refl _)
    exact (show sp_ag B (sp_pass B t _) from sp_ag_pass h1)
/-- what is missed: none, just if each note of a player that is there sounds, among those that have been -/
def sp_mi (B : Bd) (t i k : Nat) (r : Rs) : Prop := ∃ m : Nat, m ≤ k ∧ rMiss r = nI m ∧ (m = 0 ↔ ∀ j, j < bN B → (bnb B j < t ∨ (bnb B j = t ∧ j < i)) → bnp B j < bP B → ¬ rSt r j ≤ 0)
theorem sp_mi_blow {B : Bd} {t i k : Nat} {r : Rs} (hi : i < bN B) (ht : bnb B i = t) (hz : rSt r i = 0) (h : sp_mi B t i k r) : sp_mi B t (i + 1) (k + 1) (sp_blow B i r) := by
  obtain ⟨m, h1, h2, h3⟩ := h
  unfold sp_blow
  by_cases c : bnp B i < bP B
  · rw [if_pos c]
    by_cases c2 : sp_nr B (bnp B i) (rSeat r) ∧ sp_nd (bso B (bnp B i)) ≤ rHold r
    · rw [if_pos c2]
      refine ⟨m, by omega, h2, ?_⟩
      rw [h3]
      have hst : ∀ j, rSt (sp_snd B i r) j = upd (rSt r) i (if 10 ≤ rHold r - sp_tk (bso B (bnp B i)) then 2 else 1) j := fun _ => rfl
      constructor
      · intro q j hj hp hpl
        rw [hst]
        by_cases e : j = i
        · subst e; rw [pk_us]; split <;> decide
        · rw [pk_un e]; exact q j hj (by omega) hpl
      · intro q j hj hp hpl
        have := q j hj (by omega) hpl
        rw [hst] at this
        by_cases e : j = i
        · subst e; omega
        · rw [pk_un e] at this; exact this
    · rw [if_neg c2]
      refine ⟨m + 1, by omega, ?_, ?_⟩
      · show rMiss r + 1 = _
        rw [h2, nI_1]
      · constructor
        · intro q; omega
        · intro q
          have := q i hi (by omega) c
          exact absurd (show rSt r i ≤ 0 by rw [hz]; decide) this
  · rw [if_neg c]
    refine ⟨m, by omega, h2, ?_⟩
    rw [h3]
    constructor
    · intro q j hj hp hpl
      by_cases e : j = i
      · subst e; exact absurd hpl c
      · exact q j hj (by omega) hpl
    · intro q j hj hp hpl
      exact q j hj (by omega) hpl
theorem sp_mi_all {B : Bd} {t k : Nat} {r : Rs} (hz : ∀ j, j < bN B → t ≤ bnb B j → rSt r j = 0) (h : sp_mi B t 0 k r) : ∀ n, n ≤ bN B → sp_mi B t n (k + n) (sp_all B t n r)
  | 0, _ => h
  | n + 1, hn => by
    have ih := sp_mi_all hz h n (by omega)
    unfold sp_all
    by_cases hb : bnb B n = t
    · rw [if_pos hb]
      exact sp_mi_blow (by omega) hb (by rw [sp_all_st n r n (Or.inl (Nat.le_refl n))]; exact hz n (by omega) (by omega)) ih
    · rw [if_neg hb]
      obtain ⟨m, h1, h2, h3⟩ := ih
      refine ⟨m, by omega, h2, ?_⟩
      rw [h3]
      constructor
      · intro q j hj hp hpl
        refine q j hj ?_ hpl
        rcases hp with a | ⟨a, b⟩
        · exact Or.inl a
        · refine Or.inr ⟨a, ?_⟩
          rcases Nat.lt_or_ge j n with z | z
          · exact z
          · exact absurd (by rw [show n = j by omega]; exact a) hb
      · intro q j hj hp hpl
        exact q j hj (by omega) hpl
theorem sp_mi_pass {B : Bd} {t s i k : Nat} {r : Rs} (h : sp_mi B s i k r) : sp_mi B s i k (sp_pass B t r) := by
  unfold sp_pass
  split
  · exact h
  · exact h
theorem sp_mi_run {B : Bd} (hN : bN B ≤ 16) : ∀ t, sp_mi B t 0 (16 * t) (sp_run B t)
  | 0 => ⟨0, by omega, rfl, fun _ j hj hp _ => by omega, fun _ => rfl⟩
  | t + 1 => by
    have ih := sp_mi_run hN t
    have h1 : sp_mi B t (bN B) (16 * t + bN B) (sp_all B t (bN B) (sp_steal B t (sp_run B t))) := sp_mi_all (r := sp_steal B t (sp_run B t)) (fun j _ h => sp_run_st t j h) (show sp_mi B t 0 (16 * t) (sp_steal B t (sp_run B t)) from ih) _ (Nat.le_refl _)
    obtain ⟨m, a1, a2, a3⟩ := (show sp_mi B t (bN B) (16 * t + bN B) (sp_beat B t (sp_run B t)) from sp_mi_pass h1)
    refine ⟨m, by omega, a2, ?_⟩
    show m = 0 ↔ ∀ j, j < bN B → (bnb B j < t + 1 ∨ (bnb B j = t + 1 ∧ j < 0)) → bnp B j < bP B → ¬ rSt (sp_beat B t (sp_run B t)) j ≤ 0
    rw [a3]
    constructor
    · intro q j hj hp hpl
      exact q j hj (by omega) hpl
    · intro q j hj hp hpl
      exact q j hj (by omega) hpl
/-- none is missed -/
theorem sp_none {B : Bd} (hB : okB B) : rMiss (sp_run B 24) = 0 ↔ ∀ j, j < bN B → bnp B j < bP B → ¬ rSt (sp_run B 24) j ≤ 0 := by
  obtain ⟨m, h1, h2, h3⟩ := sp_mi_run hB.2.1 24
  rw [h2, nI_e0 (by omega), h3]
  constructor
  · intro q j hj hp
    exact q j hj (Or.inl (hB.2.2.2.2.2.2.1 j hj).1) hp
  · intro q j hj _ hp
    exact q j hj hp
theorem m7_soundNow_loop {σ : St} {st : Nat → Int32} {N : Nat} (hN : N ≤ 16) (h9 : σ 61 9 = nI N) (hst : ∀ j, j < N → σ 74 j = st j) (E : Int32 → St → Option (Int32 × St)) : ∀ (k i : Nat), i + k = N → ∀ n, k < n → m7_soundNow_L4 E n (sp_cs st i) (nI i) σ = E (sp_cs st N) σ := by
  intro k
  induction k with
  | zero =>
    intro i hi n hn
    obtain ⟨n, rfl⟩ : ∃ m, n = m + 1 := ⟨n - 1, by omega⟩
    show m7_soundNow_L4b _ _ _ _ σ = _
    unfold m7_soundNow_L4b
    rw [h9, if_pos (nI_le (by omega) (by omega)), show i = N by omega]
  | succ k ih =>
    intro i hi n hn
    obtain ⟨n, rfl⟩ : ∃ m, n = m + 1 := ⟨n - 1, by omega⟩
    have hk := ih (i + 1) (by omega) n (by omega)
    have hcs : sp_cs st (i + 1) = if st i ≤ 0 then sp_cs st i else sp_cs st i + 1 := rfl
    show m7_soundNow_L4b _ _ _ _ σ = _
    unfold m7_soundNow_L4b
    rw [h9, if_neg (nI_ge (by omega) (by omega))]
    have hsi := hst i (by omega)
    simp (disch := omega) only [nI_1, gd_nI, sy_ix, ix_nI, lt_eq, nI_a0, hsi]
    by_cases c : st i ≤ 0
    · rw [if_pos c]
      rw [hcs, if_pos c] at hk
      exact hk
    · rw [if_neg c]
      rw [hcs, if_neg c] at hk
      exact hk
theorem m7_soundNow_eq {σ : St} {B : Bd} (hM : isM σ B) (hB : okB B) (hR : mRun σ B) : m7_soundNow σ = some (rSnd (sp_run B 24), σ) := by
  have hN := hB.2.1
  rw [(sp_ag_run hN 24).1]
  exact m7_soundNow_loop hN hM.2.2.1 (fun j hj => hR.2.2.2.2.2.1 j hj (Or.inl (hB.2.2.2.2.2.2.1 j hj).1)) _ (bN B) 0 (by omega) sy_FU (by show _ < 1000; omega)
