/-! ===== the class's band out of the texts ===== -/
def isNt (σ : St) (b N : Nat) (nb np : Nat → Nat) : Prop := σ b 5 = nI N ∧ (∀ i, i < N → σ (b + 5) i = nI (nb i) ∧ σ (b + 6) i = nI (np i)) ∧ ∀ t, t < 24 → ∃ m : Nat, m < 2 ^ 16 ∧ σ (b + 7) t = nI m ∧ ∀ i, m.testBit i = decide (i < N ∧ nb i = t)
/-- what taking notes changes -/
def tnF (b : Nat) (σ0 σ : St) : Prop := (∀ k, k ≠ b → (k < b + 5 ∨ b + 7 < k) → σ k = σ0 k) ∧ ∀ j, j ≠ 5 → σ b j = σ0 b j
theorem tnF.rf {b : Nat} {σ : St} : tnF b σ σ := ⟨fun _ _ _ => rfl, fun _ _ => rfl⟩
theorem tnF.tr {b : Nat} {x y z : St} (h : tnF b x y) (g : tnF b y z) : tnF b x z := ⟨fun k p q => (g.1 k p q).trans (h.1 k p q), fun j q => (g.2 j q).trans (h.2 j q)⟩
theorem m0_addNote_sp {σ : St} {b N : Nat} {nb np : Nat → Nat} (hN : N < 16) (h1 : nb N < 24) (h2 : np N < 11) (h : isNt σ b N nb np) : Ok (m0_addNote b (nI (nb N)) (nI (np N)) σ) (fun _ σ' => tnF b σ σ' ∧ isNt σ' b (N + 1) nb np) := by
  obtain ⟨g1, g2, g3⟩ := h
  unfold m0_addNote
  rw [g1, show (16 : Int32) = nI 16 from rfl, if_neg (nI_ge hN (by omega)), show m6_within (nI (nb N)) 0 23 σ = _ from m6_within_eq (nI (nb N)) (nI 0) (nI 23) σ, bd_some, b01_0]
  rw [if_pos ((in_nI (by omega) (by omega) (by omega)).mpr ⟨by omega, by omega⟩), show m6_within (nI (np N)) 0 10 σ = _ from m6_within_eq (nI (np N)) (nI 0) (nI 10) σ, bd_some, b01_0]
  rw [if_pos ((in_nI (by omega) (by omega) (by omega)).mpr ⟨by omega, by omega⟩)]
  obtain ⟨m, a1, a2, a3⟩ := g3 (nb N) h1
  simp (disch := omega) only [lt_eq, sf_n, g1, gd_nI, sy_ix, ix_nI, a2, sh_1, nI_or, nI_1]
  refine ok_some ⟨⟨fun k p q => ?_, fun j q => ?_⟩, ?_, fun i hi => ?_, fun t ht => ?_⟩
  · simp (disch := omega) only [sf_n]
  · simp (disch := omega) only [sf_n, sf_sn]
  · simp only [sf_at]; simp
  · simp only [sf_at]; simp
    by_cases e : i = N
    · simp [e]
    · simp [e]
      exact g2 i (by omega)
  · simp only [sf_at]; simp
    by_cases e : t = nb N
    · subst e
      refine ⟨m ||| 2 ^ N, Nat.or_lt_two_pow a1 (Nat.pow_lt_pow_right (by omega) (by omega)), by simp, fun i => ?_⟩
      rw [or_tb, a3]
      by_cases e2 : N = i
      · subst e2
        simp
      · rw [decide_eq_false (p := N = i) e2, Bool.or_false]
        rw [← Bool.decide_and]
        apply decide_eq_decide.mpr
        constructor
        · intro q; exact ⟨by omega, q.2⟩
        · intro q; exact ⟨by omega, q.2⟩
    · obtain ⟨m2, c1, c2, c3⟩ := g3 t ht
      refine ⟨m2, c1, by simp [e]; exact c2, fun i => ?_⟩
      rw [c3]
      rw [← Bool.decide_and]
      apply decide_eq_decide.mpr
      constructor
      · intro q; exact ⟨by omega, q.2⟩
      · intro q
        refine ⟨?_, q.2⟩
        rcases Nat.lt_or_ge i N with z | z
        · exact z
        · exact absurd (by rw [show N = i by omega]; exact q.2.symm) e
theorem m0_clearNotes_sp {σ : St} {b : Nat} {nb np : Nat → Nat} : Ok (m0_clearNotes b σ) (fun _ σ' => tnF b σ σ' ∧ isNt σ' b 0 nb np) := by
  unfold m0_clearNotes
  rw [lt_eq]
  refine ok_bd (fill_sp (by omega)) (fun _ σ1 h => ?_)
  refine ok_some ⟨⟨fun k p q => ?_, fun j q => ?_⟩, ?_, fun i hi => by omega, fun t ht => ⟨0, by omega, h.2 t ht, fun i => ?_⟩⟩
  · rw [h.1 k (by omega), sf_n p]
  · show σ1 b j = _
    rw [h.1 b (by omega), sf_sn q]
  · show σ1 b 5 = _
    rw [h.1 b (by omega), sf_ss]; rfl
  · rw [Nat.zero_testBit]; simp
theorem tnF.tx {b c k n : Nat} {x y : St} {by' : Nat → Nat} (hc : c + 1 < b) (h : tnF b x y) (g : isTx x c k n by') : isTx y c k n by' := by
  unfold isTx
  rw [h.1 c (by omega) (by omega), h.1 (c + 1) (by omega) (by omega)]
  exact g
theorem m0_takeNotes_loop {σ0 : St} {b c n : Nat} {by' : Nat → Nat} {Q : Unit → St → Prop} (hc : c + 1 < b) (hT : isTx σ0 c 1 n by') (E : St → Option (Unit × St)) (hE : ∀ σ, tnF b σ0 σ → isNt σ b (sp_th 1 n by') (sp_val 1 by' 0) (sp_val 1 by' 1) → Ok (E σ) Q) : ∀ (k i : Nat), i + k = sp_th 1 n by' → ∀ f, k < f → ∀ σ, tnF b σ0 σ → isNt σ b i (sp_val 1 by' 0) (sp_val 1 by' 1) → Ok (m0_takeNotes_L11 b c E f (nI (sp_th 1 n by')) (nI i) σ) Q := by
  have ht := (sp_th_le (b := by') hT.2.2.2.2.1).1
  have hm : sp_most 1 = 16 := rfl
  intro k
  induction k with
  | zero =>
    intro i hi f hf σ hF h
    obtain ⟨f, rfl⟩ : ∃ m, f = m + 1 := ⟨f - 1, by omega⟩
    show Ok (m0_takeNotes_L11b _ _ _ _ _ _ σ) Q
    unfold m0_takeNotes_L11b
    rw [if_pos (nI_le (by omega) (by omega))]
    rw [show i = sp_th 1 n by' by omega] at h
    exact hE σ hF h
  | succ k ih =>
    intro i hi f hf σ hF h
    obtain ⟨f, rfl⟩ : ∃ m, f = m + 1 := ⟨f - 1, by omega⟩
    have hT1 := hF.tx hc hT
    show Ok (m0_takeNotes_L11b _ _ _ _ _ _ σ) Q
    unfold m0_takeNotes_L11b
    rw [if_neg (nI_ge (by omega) (by omega)), show (0 : Int32) = nI 0 from rfl, m5_meaningAt_eq (by omega) (by omega) hT1 (by omega), bd_some, show (1 : Int32) = nI 1 from rfl, m5_meaningAt_eq (by omega) (by omega) hT1 (by omega), bd_some]
    refine ok_bd (m0_addNote_sp (by omega) sp_val_lt.1 sp_val_lt.2 h) (fun _ σ1 h1 => ?_)
    rw [nI_add]
    exact ih (i + 1) (by omega) f (by omega) σ1 (hF.tr h1.1) h1.2
theorem m0_takeNotes_sp {σ : St} {b c n : Nat} {by' : Nat → Nat} (hc : c + 1 < b) (hT : isTx σ c 1 n by') : Ok (m0_takeNotes b c σ) (fun _ σ' => tnF b σ σ' ∧ isNt σ' b (sp_th 1 n by') (sp_val 1 by' 0) (sp_val 1 by' 1)) := by
  have ht := (sp_th_le (b := by') hT.2.2.2.2.1).1
  have hm : sp_most 1 = 16 := rfl
  unfold m0_takeNotes
  refine ok_bd (m0_clearNotes_sp (nb := sp_val 1 by' 0) (np := sp_val 1 by' 1)) (fun _ σ1 h1 => ?_)
  have hT1 := h1.1.tx hc hT
  rw [m5_things_eq (by omega) hT1, bd_some]
  exact m0_takeNotes_loop hc hT1 _ (fun σ2 hF h2 => ok_some ⟨h1.1.tr hF, h2⟩) (sp_th 1 n by') 0 (by omega) sy_FU (by show _ < 1000; omega) σ1 tnF.rf h1.2
/-- players, as taken -/
def isPl (σ : St) (b P : Nat) (so le : Nat → Int32) : Prop := ∀ k, k < P → σ (b + 1) k = so k ∧ σ (b + 2) k = le k ∧ σ (b + 3) k = nI k ∧ σ (b + 4) k = nI k
def tpF (b : Nat) (σ0 σ : St) : Prop := (∀ k, k ≠ b → (k < b + 1 ∨ b + 4 < k) → σ k = σ0 k) ∧ ∀ j, j ≠ 0 → σ b j = σ0 b j
theorem tpF.rf {b : Nat} {σ : St} : tpF b σ σ := ⟨fun _ _ _ => rfl, fun _ _ => rfl⟩
theorem tpF.tr {b : Nat} {x y z : St} (h : tpF b x y) (g : tpF b y z) : tpF b x z := ⟨fun k p q => (g.1 k p q).trans (h.1 k p q), fun j q => (g.2 j q).trans (h.2 j q)⟩
theorem tpF.tx {b c k n : Nat} {x y : St} {by' : Nat → Nat} (hc : c + 1 < b) (h : tpF b x y) (g : isTx x c k n by') : isTx y c k n by' := by
  unfold isTx
  rw [h.1 c (by omega) (by omega), h.1 (c + 1) (by omega) (by omega)]
  exact g
theorem m0_takePlayers_loop {σ0 : St} {b c n : Nat} {by' : Nat → Nat} {Q : Unit → St → Prop} (hc : c + 1 < b) (hT : isTx σ0 c 0 n by') (E : St → Option (Unit × St)) (hE : ∀ σ, tpF b σ0 σ → σ b 0 = nI (sp_th 0 n by') → isPl σ b (sp_th 0 n by') (fun k => nI (sp_val 0 by' 0 k)) (fun k => nI (sp_val 0 by' 1 k)) → Ok (E σ) Q) : ∀ (k i : Nat), i + k = sp_th 0 n by' → ∀ f, k < f → ∀ σ, tpF b σ0 σ → σ b 0 = nI (sp_th 0 n by') → isPl σ b i (fun k => nI (sp_val 0 by' 0 k)) (fun k => nI (sp_val 0 by' 1 k)) → Ok (m0_takePlayers_L15 b c E f (nI i) σ) Q := by
  have ht := (sp_th_le (b := by') hT.2.2.2.2.1).1
  have hm : sp_most 0 = 11 := rfl
  intro k
  induction k with
  | zero =>
    intro i hi f hf σ hF h0 h
    obtain ⟨f, rfl⟩ : ∃ m, f = m + 1 := ⟨f - 1, by omega⟩
    show Ok (m0_takePlayers_L15b _ _ _ _ _ σ) Q
    unfold m0_takePlayers_L15b
    rw [h0, if_pos (nI_le (by omega) (by omega))]
    rw [show i = sp_th 0 n by' by omega] at h
    exact hE σ hF h0 h
  | succ k ih =>
    intro i hi f hf σ hF h0 h
    obtain ⟨f, rfl⟩ : ∃ m, f = m + 1 := ⟨f - 1, by omega⟩
    have hT1 := hF.tx hc hT
    have hf1 : ∀ x : Int32, tpF b σ (sy_sf σ (b + 1) i x) := fun x => ⟨fun q h1 h2 => sf_n (by omega), fun j hj => by rw [sf_n (by omega)]⟩
    have hT2 := fun x => (hf1 x).tx hc hT1
    show Ok (m0_takePlayers_L15b _ _ _ _ _ σ) Q
    unfold m0_takePlayers_L15b
    rw [h0, if_neg (nI_ge (by omega) (by omega)), show m5_meaningAt c (nI i) 0 σ = _ from m5_meaningAt_eq (q := 0) (by omega) (by omega) hT1 (by omega), bd_some, gd_nI (by omega) (by omega), show sy_ix (nI i) = i from nI_clamp (by omega), lt_eq, show m5_meaningAt c (nI i) 1 _ = _ from m5_meaningAt_eq (q := 1) (by omega) (by omega) (hT2 _) (by omega), bd_some]
    simp (disch := omega) only [gd_nI, lt_eq, nI_1]
    refine ih (i + 1) (by omega) f (by omega) _ (hF.tr ⟨fun q h1 h2 => ?_, fun j hj => ?_⟩) ?_ (fun q hq => ?_)
    · simp (disch := omega) only [sf_n]
    · simp (disch := omega) only [sf_n]
    · simp (disch := omega) only [sf_n]
      exact h0
    · simp only [sf_at]; simp
      by_cases e : q = i
      · simp [e]
      · simp [e]
        exact h q (by omega)
theorem min_n {a b : Nat} (ha : a < 2 ^ 31) (hb : b < 2 ^ 31) (h : a ≤ b) : sy_min (nI a) (nI b) = nI a := by
  unfold sy_min
  rw [if_neg (nI_nlt h hb)]
theorem m0_takePlayers_sp {σ : St} {b c n : Nat} {by' : Nat → Nat} (hc : c + 1 < b) (hT : isTx σ c 0 n by') : Ok (m0_takePlayers b c σ) (fun _ σ' => tpF b σ σ' ∧ σ' b 0 = nI (sp_th 0 n by') ∧ isPl σ' b (sp_th 0 n by') (fun k => nI (sp_val 0 by' 0 k)) (fun k => nI (sp_val 0 by' 1 k))) := by
  have ht := (sp_th_le (b := by') hT.2.2.2.2.1).1
  have hm : sp_most 0 = 11 := rfl
  unfold m0_takePlayers
  rw [m5_things_eq (by omega) hT, bd_some, show (11 : Int32) = nI 11 from rfl, min_n (by omega) (by omega) (by omega), lt_eq]
  have hf : tpF b σ (sy_sf σ b 0 (nI (sp_th 0 n by'))) := ⟨fun q h1 h2 => sf_n h1, fun j hj => sf_sn hj⟩
  exact m0_takePlayers_loop hc (hf.tx hc hT) _ (fun σ2 hF h0 h2 => ok_some ⟨hf.tr hF, h0, h2⟩) (sp_th 0 n by') 0 (by omega) sy_FU (by show _ < 1000; omega) _ tpF.rf (sf_ss _ _ _ _) (fun k hk => by omega)
