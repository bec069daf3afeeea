/-! ===== the reference plays a band ===== -/
def isM (σ : St) (B : Bd) : Prop := σ 61 7 = nI (bP B) ∧ (∀ k, k < bP B → σ 68 (2 * k) = bso B k ∧ σ 68 (2 * k + 1) = ble B k ∧ σ 78 k = nI (bsi B k)) ∧ σ 61 9 = nI (bN B) ∧ (∀ i, i < bN B → σ 69 (2 * i) = nI (bnb B i) ∧ σ 69 (2 * i + 1) = nI (bnp B i)) ∧ σ 61 11 = bbag B ∧ σ 61 12 = nI (bE B) ∧ (∀ e, e < bE B → σ 70 (2 * e) = nI (bkd B e) ∧ σ 70 (2 * e + 1) = nI (bbt B e)) ∧ σ 61 14 = bg B ∧ σ 61 15 = bod B
/-- what playing changes in the reference's cells, and nothing else -/
def mFr (σ0 σ : St) : Prop := (∀ k : Nat, ¬ (k = 61 ∨ (71 ≤ k ∧ k ≤ 77)) → σ k = σ0 k) ∧ ∀ j : Nat, ¬ (16 ≤ j ∧ j ≤ 19) → σ 61 j = σ0 61 j
theorem mFr.rf {σ : St} : mFr σ σ := ⟨fun _ _ => rfl, fun _ _ => rfl⟩
theorem mFr.tr {a b c : St} (h : mFr a b) (g : mFr b c) : mFr a c := ⟨fun k q => (g.1 k q).trans (h.1 k q), fun j q => (g.2 j q).trans (h.2 j q)⟩
theorem mFr.isM {a b : St} {B : Bd} (h : mFr a b) (g : isM a B) : isM b B := by
  obtain ⟨g1, g2, g3, g4, g5, g6, g7, g8, g9⟩ := g
  have e68 := h.1 68 (by omega)
  have e69 := h.1 69 (by omega)
  have e70 := h.1 70 (by omega)
  have e78 := h.1 78 (by omega)
  refine ⟨?_, ?_, ?_, ?_, ?_, ?_, ?_, ?_, ?_⟩
  · rw [h.2 7 (by omega)]; exact g1
  · rw [e68, e78]; exact g2
  · rw [h.2 9 (by omega)]; exact g3
  · rw [e69]; exact g4
  · rw [h.2 11 (by omega)]; exact g5
  · rw [h.2 12 (by omega)]; exact g6
  · rw [e70]; exact g7
  · rw [h.2 14 (by omega)]; exact g8
  · rw [h.2 15 (by omega)]; exact g9
theorem m7_isIn_eq (g x : Int32) (σ : St) : m7_isIn g x σ = some (b01 ((g >>> (x &&& 31)) &&& 1 = 1), σ) := by
  unfold m7_isIn b01
  by_cases h : (g >>> (x &&& 31)) &&& 1 = 1
  · rw [if_pos h, if_pos h, zg_1]
  · rw [if_neg h, if_neg h, zg_0]
theorem sp_bit_1 {g : Int32} {e : Nat} : ¬ sp_bit g e = 1 ↔ sp_bit g e = 0 := by
  rcases and1 (g >>> (nI e &&& 31)) with h | h
  · exact ⟨fun _ => h, fun q => by rw [q]; decide⟩
  · have h : sp_bit g e = 1 := h
    exact ⟨fun q => absurd h q, fun q => by rw [h] at q; exact absurd q (by decide)⟩
theorem m7_many_loop {σ : St} {B : Bd} {q t : Nat} (hq : q < 3) (ht : t < 24) (hM : isM σ B) (hB : okB B) (E : Int32 → St → Option (Int32 × St)) : ∀ (k e : Nat), e + k = bE B → ∀ n, k < n → m7_many_L5 E n (nI q) (nI t) (nI (sp_cn B q t e)) (nI e) σ = E (nI (sp_cnt B q t)) σ := by
  obtain ⟨g1, g2, g3, g4, g5, g6, g7, g8, g9⟩ := hM
  obtain ⟨o1, o2, o3, o4, o5, o6, o7, o8, o9⟩ := hB
  intro k
  induction k with
  | zero =>
    intro e he n hn
    obtain ⟨n, rfl⟩ : ∃ m, n = m + 1 := ⟨n - 1, by omega⟩
    show m7_many_L5b _ _ _ _ _ _ σ = _
    unfold m7_many_L5b
    rw [g6, if_pos (nI_le (by omega) (by omega)), show e = bE B by omega]
    rfl
  | succ k ih =>
    intro e he n hn
    obtain ⟨n, rfl⟩ : ∃ m, n = m + 1 := ⟨n - 1, by omega⟩
    have hk := ih (e + 1) (by omega) n (by omega)
    obtain ⟨p1, p2⟩ := g7 e (by omega)
    obtain ⟨q1, q2⟩ := o8 e (by omega)
    have hcn : sp_cn B q t (e + 1) = sp_cn B q t e + (if bkd B e = q ∧ bbt B e = t ∧ sp_bit (bg B) e = 0 then 1 else 0) := rfl
    show m7_many_L5b _ _ _ _ _ _ σ = _
    unfold m7_many_L5b
    rw [g6, if_neg (nI_ge (by omega) (by omega))]
    simp (disch := omega) only [nI_2, nI_1, gd_nI, sy_ix, ix_nI, p1, p2, g8, nI_eq, m7_isIn_eq, bd_some, b01_0, lt_eq, nI_a0, ih]
    by_cases c1 : bkd B e = q
    · rw [if_pos c1]
      by_cases c2 : bbt B e = t
      · rw [if_pos c2]
        by_cases c3 : sp_bit (bg B) e = 1
        · rw [if_pos c3]
          rw [hcn, if_neg (fun h => by rw [h.2.2] at c3; exact absurd c3 (by decide))] at hk
          exact hk
        · rw [if_neg c3]
          rw [hcn, if_pos ⟨c1, c2, sp_bit_1.mp c3⟩] at hk
          exact hk
      · rw [if_neg c2]
        rw [hcn, if_neg (fun h => c2 h.2.1)] at hk
        exact hk
    · rw [if_neg c1]
      rw [hcn, if_neg (fun h => c1 h.1)] at hk
      exact hk
theorem m7_many_eq {σ : St} {B : Bd} {q t : Nat} (hq : q < 3) (ht : t < 24) (hM : isM σ B) (hB : okB B) : m7_many (nI q) (nI t) σ = some (nI (sp_cnt B q t), σ) := by
  have := hB.2.2.1
  exact m7_many_loop hq ht hM hB _ (bE B) 0 (by omega) sy_FU (by show _ < 1000; omega)
theorem m7_whoIn_loop {σ : St} {B : Bd} {s : Nat} (hs : s < bP B) (hM : isM σ B) (hB : okB B) (E : Int32 → St → Option (Int32 × St)) : ∀ (k i : Nat), i + k = bP B → ∀ n, k < n → ∀ x : Int32, (bwh B s < i → x = nI (bwh B s)) → m7_whoIn_L4 E n (nI s) x (nI i) σ = E (nI (bwh B s)) σ := by
  obtain ⟨g1, g2, g3, g4, g5, g6, g7, g8, g9⟩ := hM
  obtain ⟨o1, o2, o3, o4, o5, o6, o7, o8, o9⟩ := hB
  intro k
  induction k with
  | zero =>
    intro i hi n hn x hx
    obtain ⟨n, rfl⟩ : ∃ m, n = m + 1 := ⟨n - 1, by omega⟩
    show m7_whoIn_L4b _ _ _ _ _ σ = _
    unfold m7_whoIn_L4b
    rw [g1, if_pos (nI_le (by omega) (by omega)), hx (by have := (o5 s hs).1; omega)]
  | succ k ih =>
    intro i hi n hn x hx
    obtain ⟨n, rfl⟩ : ∃ m, n = m + 1 := ⟨n - 1, by omega⟩
    obtain ⟨p1, p2, p3⟩ := g2 i (by omega)
    have q1 := o4 i (by omega)
    show m7_whoIn_L4b _ _ _ _ _ σ = _
    unfold m7_whoIn_L4b
    rw [g1, if_neg (nI_ge (by omega) (by omega))]
    simp (disch := omega) only [nI_1, gd_nI, sy_ix, ix_nI, p3, nI_eq]
    by_cases c : bsi B i = s
    · rw [if_pos c]
      have e : bwh B s = i := by rw [← c]; exact o6 i (by omega)
      exact ih (i + 1) (by omega) n (by omega) _ (fun _ => by rw [e])
    · rw [if_neg c]
      refine ih (i + 1) (by omega) n (by omega) _ (fun h => hx ?_)
      rcases Nat.lt_or_ge (bwh B s) i with a | a
      · exact a
      · exact absurd (by rw [show i = bwh B s by omega]; exact (o5 s hs).2) c
theorem m7_whoIn_eq {σ : St} {B : Bd} {s : Nat} (hs : s < bP B) (hM : isM σ B) (hB : okB B) : m7_whoIn (nI s) σ = some (nI (bwh B s), σ) := by
  have := hB.1
  exact m7_whoIn_loop hs hM hB _ (bP B) 0 (by omega) sy_FU (by show _ < 1000; omega) _ (fun h => by omega)
theorem m7_lesser_eq (a b : Int32) (σ : St) : m7_lesser a b σ = some (sy_min b a, σ) := by
  unfold m7_lesser sy_min
  by_cases h : b ≤ a
  · rw [if_pos h, if_neg (fun q => by have h1 := i32_le.mp h; have h2 := i32_lt.mp q; omega)]
  · rw [if_neg h, if_pos (i32_lt.mpr (by have h1 := mt i32_le.mpr h; omega))]
theorem m7_greater_eq (a b : Int32) (σ : St) : m7_greater a b σ = some (if b < a then a else b, σ) := by
  unfold m7_greater
  by_cases h : a ≤ b
  · rw [if_pos h, if_neg (fun q => by have h1 := i32_le.mp h; have h2 := i32_lt.mp q; omega)]
  · rw [if_neg h, if_pos (i32_lt.mpr (by have h1 := mt i32_le.mpr h; omega))]
/-- the reference's cells as they stand behind the beats ahead of t and, on it, the notes ahead of i -/
def mRel (σ : St) (B : Bd) (t i : Nat) (r : Rs) : Prop := σ 61 16 = nI (rSeat r) ∧ σ 61 17 = rHold r ∧ σ 61 18 = rStol r ∧ σ 61 19 = rLeak r ∧ (∀ k, k < 11 → σ 75 k = rSnds r k ∧ σ 76 k = rTook r k ∧ σ 77 k = rGoes r k) ∧ (∀ j, j < bN B → (bnb B j < t ∨ (bnb B j = t ∧ j < i)) → σ 74 j = rSt r j) ∧ ∀ b, b < t → σ 71 b = rSB r b ∧ σ 72 b = rHB r b ∧ σ 73 b = rLB r b
theorem sp_nd_tk (s : Int32) : (s = 0 ∧ sp_nd s = 4) ∨ (¬ s = 0 ∧ s = 1 ∧ sp_nd s = 2) ∨ (¬ s = 0 ∧ ¬ s = 1 ∧ sp_nd s = 1) := by
  unfold sp_nd
  by_cases h : s = 0
  · exact Or.inl ⟨h, by rw [if_pos h]⟩
  · by_cases h1 : s = 1
    · exact Or.inr (Or.inl ⟨h, h1, by rw [if_neg h, if_pos h1]⟩)
    · exact Or.inr (Or.inr ⟨h, h1, by rw [if_neg h, if_neg h1]⟩)
theorem m7_apart_1 {a b : Nat} (ha : a < 11) (hb : b < 11) (σ : St) : ∃ x, m7_apart (nI a) (nI b) σ = some (x, σ) ∧ (x = 1 ↔ (a = b + 1 ∨ b = a + 1)) := by
  unfold m7_apart
  by_cases h : a ≤ b
  · rw [if_pos (nI_le h (by omega)), pk_sub h]
    refine ⟨_, rfl, ?_⟩
    rw [show (1 : Int32) = nI 1 from rfl, nI_eq (by omega) (by omega)]
    omega
  · rw [if_neg (nI_ge (by omega) (by omega)), pk_sub (by omega)]
    refine ⟨_, rfl, ?_⟩
    rw [show (1 : Int32) = nI 1 from rfl, nI_eq (by omega) (by omega)]
    omega
theorem nI_iffP {j n : Nat} (hj : j < 2 ^ 31) (hn : n < 2 ^ 31) : (0 ≤ nI j ∧ nI j ≤ nI n - 1) ↔ j < n :=
  ⟨fun h => by obtain ⟨a, b, c⟩ := nI_rngP hn h; rw [(nI_eq hj (by omega)).mp c]; exact b, fun h => nI_inP hn h⟩
theorem m7_J96 {σ : St} {B : Bd} {t i k : Nat} {r : Rs} (hi : i < 16) (hk : k < 11) (hb : bnp B i = k) (hR : mRel σ B t (i + 1) r) (c : Prop) [Decidable c] : Ok (m7_blows_J96 (nI i) (nI k) (sp_nd (bso B k)) (b01 c) σ) (fun _ σ' => mFr σ σ' ∧ mRel σ' B t (i + 1) (if c ∧ sp_nd (bso B k) ≤ rHold r then sp_snd B i r else sp_ms r)) := by
  obtain ⟨h1, h2, h3, h4, h5, h6, h7⟩ := hR
  unfold m7_blows_J96
  rw [b01_0]
  by_cases hc : c
  · rw [if_pos hc, h2]
    by_cases hh : rHold r < sp_nd (bso B k)
    · rw [if_pos hh, if_neg (fun q => by have a := i32_lt.mp hh; have b := i32_le.mp q.2; omega)]
      exact ⟨mFr.rf, h1, h2, h3, h4, h5, h6, h7⟩
    · rw [if_neg hh, if_pos ⟨hc, i32_le.mpr (by have a := mt i32_lt.mpr hh; omega)⟩, dv_ne (by decide)]
      subst hb
      have hk5 := h5 (bnp B i) hk
      simp (disch := omega) only [lt_eq, gd_nI, sy_ix, ix_nI, sf_n, sf_ss]
      rw [show sp_nd (bso B (bnp B i)) - sp_nd (bso B (bnp B i)) / 2 = sp_tk (bso B (bnp B i)) from rfl]
      have key : ∀ v : Int32, v = (if 10 ≤ rHold r - sp_tk (bso B (bnp B i)) then 2 else 1) → mFr σ (sy_sf (sy_sf (sy_sf (sy_sf σ 61 17 (rHold r - sp_tk (bso B (bnp B i)))) 76 (bnp B i) (σ 76 (bnp B i) + sp_tk (bso B (bnp B i)))) 75 (bnp B i) (σ 75 (bnp B i) + 1)) 74 i v) ∧ mRel (sy_sf (sy_sf (sy_sf (sy_sf σ 61 17 (rHold r - sp_tk (bso B (bnp B i)))) 76 (bnp B i) (σ 76 (bnp B i) + sp_tk (bso B (bnp B i)))) 75 (bnp B i) (σ 75 (bnp B i) + 1)) 74 i v) B t (i + 1) (sp_snd B i r) := by
        intro v hv
        refine ⟨⟨fun q hq => ?_, fun j hj => ?_⟩, ?_, ?_, ?_, ?_, ?_, ?_, ?_⟩
        · rw [sf_n (by omega), sf_n (by omega), sf_n (by omega), sf_n (by omega)]
        · rw [sf_n (by omega), sf_n (by omega), sf_n (by omega), sf_sn (by omega)]
        · simp only [sf_at]; simp; exact h1
        · simp only [sf_at]; simp; rfl
        · simp only [sf_at]; simp; exact h3
        · simp only [sf_at]; simp; exact h4
        · intro q hq
          obtain ⟨a1, a2, a3⟩ := h5 q hq
          simp only [sf_at]
          simp
          refine ⟨?_, ?_, a3⟩
          · show _ = upd (rSnds r) (bnp B i) (rSnds r (bnp B i) + 1) q
            unfold upd
            rw [← hk5.1]
            split
            · rfl
            · exact a1
          · show _ = upd (rTook r) (bnp B i) (rTook r (bnp B i) + sp_tk (bso B (bnp B i))) q
            unfold upd
            rw [← hk5.2.1]
            split
            · rfl
            · exact a2
        · intro j hj hp
          have a := h6 j hj hp
          simp only [sf_at]
          simp
          show _ = upd (rSt r) i (if 10 ≤ rHold r - sp_tk (bso B (bnp B i)) then 2 else 1) j
          unfold upd
          split
          · exact hv
          · exact a
        · intro b hb
          simp only [sf_at]
          simp
          exact h7 b hb
      by_cases h10 : 10 ≤ rHold r - sp_tk (bso B (bnp B i))
      · rw [if_pos h10]
        exact key 2 (by rw [if_pos h10])
      · rw [if_neg h10]
        exact key 1 (by rw [if_neg h10])
  · rw [if_neg hc, if_neg (fun q => hc q.1)]
    exact ⟨mFr.rf, h1, h2, h3, h4, h5, h6, h7⟩
theorem m7_J54 {σ : St} {B : Bd} {t i k : Nat} {r : Rs} (hM : isM σ B) (hB : okB B) (hi : i < 16) (hk : k < bP B) (hb : bnp B i = k) (hin : sp_in B r) (hR : mRel σ B t (i + 1) r) : Ok (m7_blows_J54 (nI i) (nI k) (bso B k) (sp_nd (bso B k)) σ) (fun _ σ' => mFr σ σ' ∧ mRel σ' B t (i + 1) (if sp_nr B k (rSeat r) ∧ sp_nd (bso B k) ≤ rHold r then sp_snd B i r else sp_ms r)) := by
  have hk11 : k < 11 := by have := hB.1; omega
  have hsi := hB.2.2.2.1 k hk
  have hse : rSeat r < 11 := by have := hB.1; rcases hin with a | a <;> omega
  obtain ⟨p1, p2, p3⟩ := hM.2.1 k hk
  have h1 := hR.1
  have hP := hB.1
  unfold m7_blows_J54
  simp (disch := omega) only [gd_nI, sy_ix, ix_nI, p3, h1, nI_eq]
  have key := fun (c : Prop) [Decidable c] => m7_J96 hi hk11 hb hR c
  by_cases c1 : bsi B k = rSeat r
  · rw [if_pos c1, show (1 : Int32) = b01 (sp_nr B k (rSeat r)) from by unfold b01; rw [if_pos (Or.inl c1)]]
    exact key _
  · rw [if_neg c1]
    by_cases c2 : bso B k = 2
    · rw [if_pos c2]
      obtain ⟨x, e1, e2⟩ := m7_apart_1 (a := bsi B k) (b := rSeat r) (by omega) hse σ
      rw [e1, bd_some]
      by_cases c3 : bsi B k = rSeat r + 1 ∨ rSeat r = bsi B k + 1
      · rw [if_pos (e2.mpr c3), show (1 : Int32) = b01 (sp_nr B k (rSeat r)) from by unfold b01; rw [if_pos (Or.inr ⟨c2, c3⟩)]]
        exact key _
      · rw [if_neg (fun q => c3 (e2.mp q)), show (0 : Int32) = b01 (sp_nr B k (rSeat r)) from by unfold b01; rw [if_neg (fun q => by rcases q with q | q; exact c1 q; exact c3 q.2)]]
        exact key _
    · rw [if_neg c2, show (0 : Int32) = b01 (sp_nr B k (rSeat r)) from by unfold b01; rw [if_neg (fun q => by rcases q with q | q; exact c1 q; exact c2 q.1)]]
      exact key _
theorem m7_blows_sp {σ : St} {B : Bd} {t i : Nat} {r : Rs} (hM : isM σ B) (hB : okB B) (hi : i < bN B) (hin : sp_in B r) (hz : rSt r i = 0) (hR : mRel σ B t i r) : Ok (m7_blows (nI i) σ) (fun _ σ' => mFr σ σ' ∧ mRel σ' B t (i + 1) (sp_blow B i r)) := by
  have hN := hB.2.1
  have hP := hB.1
  obtain ⟨q1, q2⟩ := hB.2.2.2.2.2.2.1 i hi
  obtain ⟨p1, p2⟩ := hM.2.2.2.1 i hi
  have hf : mFr σ (sy_sf σ 74 i 0) := ⟨fun q hq => sf_n (by omega), fun j hj => by rw [sf_n (by omega)]⟩
  have hM2 := hf.isM hM
  have hR2 : mRel (sy_sf σ 74 i 0) B t (i + 1) r := by
    obtain ⟨h1, h2, h3, h4, h5, h6, h7⟩ := hR
    refine ⟨?_, ?_, ?_, ?_, ?_, ?_, ?_⟩
    · rw [sf_n (by omega)]; exact h1
    · rw [sf_n (by omega)]; exact h2
    · rw [sf_n (by omega)]; exact h3
    · rw [sf_n (by omega)]; exact h4
    · rw [sf_n (by omega), sf_n (by omega), sf_n (by omega)]; exact h5
    · intro j hj hp
      by_cases e : j = i
      · subst e; rw [sf_ss]; exact hz.symm
      · rw [sf_sn e]; exact h6 j hj (by omega)
    · rw [sf_n (by omega), sf_n (by omega), sf_n (by omega)]; exact h7
  unfold m7_blows
  simp (disch := omega) only [nI_2, nI_1, gd_nI, sy_ix, ix_nI, p2, lt_eq, m7_isPlayer_eq, bd_some, b01_0]
  rw [hM2.1]
  simp (disch := omega) only [nI_iffP]
  by_cases c : bnp B i < bP B
  · rw [if_pos c]
    have hp := (hM2.2.1 (bnp B i) c).1
    simp (disch := omega) only [nI_2, gd_nI, sy_ix, ix_nI, hp, lt_eq]
    have key := m7_J54 hM2 hB (by omega) c rfl hin hR2
    have hsp : sp_blow B i r = if sp_nr B (bnp B i) (rSeat r) ∧ sp_nd (bso B (bnp B i)) ≤ rHold r then sp_snd B i r else sp_ms r := by unfold sp_blow; rw [if_pos c]
    rw [hsp]
    rcases sp_nd_tk (bso B (bnp B i)) with ⟨a, b⟩ | ⟨a, b, d⟩ | ⟨a, b, d⟩
    · rw [if_pos a]
      rw [b] at key ⊢
      exact ok_mono key (fun _ _ h => ⟨hf.tr h.1, h.2⟩)
    · rw [if_neg a, if_pos b]
      rw [d] at key ⊢
      exact ok_mono key (fun _ _ h => ⟨hf.tr h.1, h.2⟩)
    · rw [if_neg a, if_neg b]
      rw [d] at key ⊢
      exact ok_mono key (fun _ _ h => ⟨hf.tr h.1, h.2⟩)
  · rw [if_neg c]
    have hsp : sp_blow B i r = r := by unfold sp_blow; rw [if_neg c]
    rw [hsp]
    exact ⟨hf, hR2⟩
theorem sp_blow_st {B : Bd} {i j : Nat} {r : Rs} (h : j ≠ i) : rSt (sp_blow B i r) j = rSt r j := by
  unfold sp_blow
  split
  · split
    · show upd (rSt r) i _ j = _
      unfold upd
      rw [if_neg h]
    · rfl
  · rfl
theorem sp_all_st {B : Bd} {t : Nat} : ∀ (n : Nat) (r : Rs) (j : Nat), (n ≤ j ∨ bnb B j ≠ t) → rSt (sp_all B t n r) j = rSt r j
  | 0, r, j, _ => rfl
  | n + 1, r, j, h => by
    have ih := sp_all_st (B := B) (t := t) n r j (by omega)
    unfold sp_all
    split
    · rename_i hb
      rw [sp_blow_st (fun e => by subst e; rcases h with h | h; omega; exact h hb)]
      exact ih
    · exact ih
theorem m7_passes_loop {σ0 : St} {B : Bd} {t : Nat} {r0 : Rs} {Q : Unit → St → Prop} (hM : isM σ0 B) (hB : okB B) (ht : t < 24) (hin : sp_in B r0) (hz : ∀ j, j < bN B → t ≤ bnb B j → rSt r0 j = 0) (E : Int32 → St → Option (Unit × St))
    (hE : ∀ σ, mFr σ0 σ → mRel σ B t (bN B) (sp_all B t (bN B) r0) → Ok (E (nI t) σ) Q) : ∀ (k i : Nat), i + k = bN B → ∀ n, k < n → ∀ σ, mFr σ0 σ → mRel σ B t i (sp_all B t i r0) → Ok (m7_passes_L38 E n (nI t) (nI i) σ) Q := by
  have hN := hB.2.1
  intro k
  induction k with
  | zero =>
    intro i hi n hn σ hF hR
    obtain ⟨n, rfl⟩ : ∃ m, n = m + 1 := ⟨n - 1, by omega⟩
    have hM1 := hF.isM hM
    show Ok (m7_passes_L38b _ _ _ _ σ) Q
    unfold m7_passes_L38b
    rw [hM1.2.2.1, if_pos (nI_le (by omega) (by omega))]
    rw [show i = bN B by omega] at hR
    exact hE σ hF hR
  | succ k ih =>
    intro i hi n hn σ hF hR
    obtain ⟨n, rfl⟩ : ∃ m, n = m + 1 := ⟨n - 1, by omega⟩
    have hM1 := hF.isM hM
    obtain ⟨p1, p2⟩ := hM1.2.2.2.1 i (by omega)
    obtain ⟨o1, o2⟩ := hB.2.2.2.2.2.2.1 i (by omega)
    show Ok (m7_passes_L38b _ _ _ _ σ) Q
    unfold m7_passes_L38b
    rw [hM1.2.2.1, if_neg (nI_ge (by omega) (by omega))]
    simp (disch := omega) only [nI_2, nI_1, gd_nI, sy_ix, ix_nI, p1, nI_eq]
    by_cases c : bnb B i = t
    · rw [if_pos c]
      refine ok_bd (m7_blows_sp hM1 hB (by omega) (sp_in_all hin) ?_ hR) (fun _ σ1 h => ?_)
      · rw [sp_all_st i r0 i (Or.inl (Nat.le_refl i))]
        exact hz i (by omega) (by omega)
      · refine ih (i + 1) (by omega) n (by omega) σ1 (hF.tr h.1) ?_
        have e : sp_all B t (i + 1) r0 = sp_blow B i (sp_all B t i r0) := by
          show (if bnb B i = t then _ else _) = _
          rw [if_pos c]
        rw [e]
        exact h.2
    · rw [if_neg c]
      refine ih (i + 1) (by omega) n (by omega) σ hF ?_
      have e : sp_all B t (i + 1) r0 = sp_all B t i r0 := by
        show (if bnb B i = t then _ else _) = _
        rw [if_neg c]
      rw [e]
      obtain ⟨h1, h2, h3, h4, h5, h6, h7⟩ := hR
      refine ⟨h1, h2, h3, h4, h5, fun j hj hp => h6 j hj ?_, h7⟩
      rcases hp with a | ⟨a, b⟩
      · exact Or.inl a
      · refine Or.inr ⟨a, ?_⟩
        rcases Nat.lt_or_ge j i with z | z
        · exact z
        · exact absurd (by rw [show i = j by omega]; exact a) c
theorem m7_J202 {σ : St} {B : Bd} {t : Nat} {r : Rs} {x : Int32} (ht : t < 24) (h1 : σ 61 16 = nI (rSeat r)) (h2 : σ 61 17 - x = rHold r) (h3 : σ 61 18 = rStol r) (h4 : σ 61 19 + x = rLeak r) (h5 : ∀ k, k < 11 → σ 75 k = rSnds r k ∧ σ 76 k = rTook r k ∧ σ 77 k = rGoes r k) (h6 : ∀ j, j < bN B → (bnb B j < t ∨ (bnb B j = t ∧ j < bN B)) → σ 74 j = rSt r j) (h7 : ∀ b, b < t → σ 71 b = rSB r b ∧ σ 72 b = rHB r b ∧ σ 73 b = rLB r b) :
    Ok (m7_passes_J202 (nI t) x σ) (fun _ σ' => mFr σ σ' ∧ mRel σ' B (t + 1) 0 (sp_note t x r)) := by
  unfold m7_passes_J202
  simp (disch := omega) only [lt_eq, gd_nI, sy_ix, ix_nI, sf_n, sf_ss, sf_sn]
  rw [h2, h4, h1]
  refine ok_some ?_
  refine ⟨⟨fun q hq => ?_, fun j hj => ?_⟩, ?_, ?_, ?_, ?_, ?_, ?_, ?_⟩
  · rw [sf_n (by omega), sf_n (by omega), sf_n (by omega), sf_n (by omega), sf_n (by omega)]
  · rw [sf_n (by omega), sf_n (by omega), sf_n (by omega), sf_sn (by omega), sf_sn (by omega)]
  · simp only [sf_at]; simp; exact h1
  · simp only [sf_at]; simp; rfl
  · simp only [sf_at]; simp; exact h3
  · simp only [sf_at]; simp; rfl
  · intro k hk
    simp only [sf_at]; simp
    exact h5 k hk
  · intro j hj hp
    simp only [sf_at]; simp
    exact h6 j hj (by omega)
  · intro b hb
    simp only [sf_at]; simp
    refine ⟨?_, ?_, ?_⟩
    · show _ = upd (rSB r) t (nI (rSeat r)) b
      unfold upd
      split
      · rfl
      · exact (h7 b (by omega)).1
    · show _ = upd (rHB r) t (rHold r) b
      unfold upd
      split
      · rfl
      · exact (h7 b (by omega)).2.1
    · show _ = upd (rLB r) t x b
      unfold upd
      split
      · rfl
      · exact (h7 b (by omega)).2.2
/-- the bag goes on, by so much that is due -/
def sp_go (B : Bd) (g : Int32) (r : Rs) : Rs := (if rSeat r + 1 = bP B then 0 else rSeat r + 1, rHold r - g, rStol r, rLeak r + g, rSnds r, rTook r, upd (rGoes r) (bwh B (rSeat r)) (rGoes r (bwh B (rSeat r)) + g), rSt r, rSnd r, rBit r, rMiss r, rSB r, rHB r, rLB r)
theorem m7_J164 {σ : St} {B : Bd} {t : Nat} {r : Rs} {x : Int32} (hB : okB B) (ht : t < 24) (hin : rSeat r < bP B) (hR : mRel σ B t (bN B) r) : Ok (m7_passes_J164 (nI t) (nI (bwh B (rSeat r))) (b01 (rSeat r + 1 = bP B)) x σ) (fun _ σ' => mFr σ σ' ∧ mRel σ' B (t + 1) 0 (sp_note t (sy_min (rHold r) x) (sp_go B (sy_min (rHold r) x) r))) := by
  obtain ⟨h1, h2, h3, h4, h5, h6, h7⟩ := hR
  have hP := hB.1
  have hw := (hB.2.2.2.2.1 _ hin).1
  unfold m7_passes_J164
  rw [m7_lesser_eq, bd_some, h2, b01_0]
  generalize hx : sy_min (rHold r) x = g
  have h5w := h5 (bwh B (rSeat r)) (by omega)
  have hg : ∀ k, k < 11 → (if k = bwh B (rSeat r) then σ 77 (bwh B (rSeat r)) + g else σ 77 k) = upd (rGoes r) (bwh B (rSeat r)) (rGoes r (bwh B (rSeat r)) + g) k := by
    intro k hk
    unfold upd
    rw [h5w.2.2]
    split
    · rfl
    · exact (h5 k hk).2.2
  have key : ∀ z : Nat, z = (if rSeat r + 1 = bP B then 0 else rSeat r + 1) → Ok (m7_passes_J202 (nI t) g (sy_sf (sy_sf σ 61 16 (nI z)) 77 (bwh B (rSeat r)) (σ 77 (bwh B (rSeat r)) + g))) (fun _ σ' => mFr σ σ' ∧ mRel σ' B (t + 1) 0 (sp_note t g (sp_go B g r))) := by
    intro z hz
    have hf : mFr σ (sy_sf (sy_sf σ 61 16 (nI z)) 77 (bwh B (rSeat r)) (σ 77 (bwh B (rSeat r)) + g)) := ⟨fun q hq => by rw [sf_n (by omega), sf_n (by omega)], fun j hj => by rw [sf_n (by omega), sf_sn (by omega)]⟩
    refine ok_mono (m7_J202 (B := B) (r := sp_go B g r) ht ?_ ?_ ?_ ?_ ?_ ?_ ?_) (fun _ _ h => ⟨hf.tr h.1, h.2⟩)
    · simp only [sf_at]; simp; rw [hz]; rfl
    · simp only [sf_at]; simp; rw [h2]; rfl
    · simp only [sf_at]; simp; exact h3
    · simp only [sf_at]; simp; rw [h4]; rfl
    · intro k hk
      simp only [sf_at]; simp
      exact ⟨(h5 k hk).1, (h5 k hk).2.1, hg k hk⟩
    · intro j hj hp
      simp only [sf_at]; simp
      exact h6 j hj hp
    · intro b hb
      simp only [sf_at]; simp
      exact h7 b hb
  by_cases c : rSeat r + 1 = bP B
  · rw [if_pos c]
    simp (disch := omega) only [lt_eq, gd_nI, sy_ix, ix_nI, sf_n]
    exact key 0 (by rw [if_pos c])
  · rw [if_neg c]
    simp (disch := omega) only [lt_eq, gd_nI, sy_ix, ix_nI, sf_n, h1, nI_1]
    exact key (rSeat r + 1) (by rw [if_neg c])
theorem m7_passes_sp {σ : St} {B : Bd} {t : Nat} {r : Rs} (hM : isM σ B) (hB : okB B) (ht : t < 24) (hin : sp_in B r) (hz : ∀ j, j < bN B → t ≤ bnb B j → rSt r j = 0) (hR : mRel σ B t 0 r) : Ok (m7_passes (nI t) σ) (fun _ σ' => mFr σ σ' ∧ mRel σ' B (t + 1) 0 (sp_beat B t r)) := by
  have hN := hB.2.1
  have hP := hB.1
  have hE8 := hB.2.2.1
  unfold m7_passes
  rw [show (0 : Int32) = nI 0 from rfl, m7_many_eq (by omega) ht hM hB, bd_some, m7_lesser_eq, bd_some]
  obtain ⟨h1, h2, h3, h4, h5, h6, h7⟩ := hR
  simp (disch := omega) only [lt_eq, sf_n, sf_sn, sf_ss]
  rw [h2, h3]
  generalize hg : sy_min (rHold r) (3 * nI (sp_cnt B 0 t)) = g
  have hf : mFr σ (sy_sf (sy_sf σ 61 17 (rHold r - g)) 61 18 (rStol r + g)) := ⟨fun q hq => by rw [sf_n (by omega), sf_n (by omega)], fun j hj => by rw [sf_sn (by omega), sf_sn (by omega)]⟩
  have hr1 : sp_steal B t r = (rSeat r, rHold r - g, rStol r + g, rLeak r, rSnds r, rTook r, rGoes r, rSt r, rSnd r, rBit r, rMiss r, rSB r, rHB r, rLB r) := by unfold sp_steal; rw [hg]
  have hR1 : mRel (sy_sf (sy_sf σ 61 17 (rHold r - g)) 61 18 (rStol r + g)) B t 0 (sp_steal B t r) := by
    rw [hr1]
    refine ⟨?_, ?_, ?_, ?_, ?_, ?_, ?_⟩
    · simp only [sf_at]; simp; exact h1
    · simp only [sf_at]; simp; rfl
    · simp only [sf_at]; simp; rfl
    · simp only [sf_at]; simp; exact h4
    · intro k hk
      simp only [sf_at]; simp; exact h5 k hk
    · intro j hj hp
      simp only [sf_at]; simp; exact h6 j hj hp
    · intro b hb
      simp only [sf_at]; simp; exact h7 b hb
  have hM1 := hf.isM hM
  have hin1 : sp_in B (sp_steal B t r) := hin
  have hz1 : ∀ j, j < bN B → t ≤ bnb B j → rSt (sp_steal B t r) j = 0 := hz
  refine m7_passes_loop hM1 hB ht hin1 hz1 _ (fun σ2 hF2 hR2 => ?_) (bN B) 0 (by omega) sy_FU (by show _ < 1000; omega) _ mFr.rf hR1
  have hM2 := hF2.isM hM1
  have hin2 := sp_in_all (t := t) (n := bN B) hin1
  have hbeat : sp_beat B t r = sp_note t (sp_lost B t (sp_all B t (bN B) (sp_steal B t r))) (sp_pass B t (sp_all B t (bN B) (sp_steal B t r))) := rfl
  rw [hbeat]
  generalize sp_all B t (bN B) (sp_steal B t r) = r2 at hR2 hin2 ⊢
  have hfin : ∀ σ', mFr σ2 σ' → mFr σ σ' := fun σ' h => (hf.tr hF2).tr h
  have stay : sp_kept B t → Ok (m7_passes_J202 (nI t) (nI 0) σ2) (fun _ σ' => mFr σ σ' ∧ mRel σ' B (t + 1) 0 (sp_note t (sp_lost B t r2) (sp_pass B t r2))) := by
    intro hk
    have e1 : sp_lost B t r2 = nI 0 := by unfold sp_lost; rw [if_pos hk]; rfl
    have e2 : sp_pass B t r2 = r2 := by unfold sp_pass; rw [if_pos hk]
    rw [e1, e2]
    obtain ⟨k1, k2, k3, k4, k5, k6, k7⟩ := hR2
    refine ok_mono (m7_J202 (B := B) ht k1 (by rw [k2]; exact Int32.sub_zero _) k3 (by rw [k4]; exact Int32.add_zero _) k5 k6 k7) (fun _ σ' h => ⟨hfin σ' h.1, h.2⟩)
  show Ok (if σ2 61 7 ≤ nI 0 then _ else _) _
  rw [hM2.1]
  by_cases c0 : bP B = 0
  · rw [if_pos (nI_le (by omega) (by omega))]
    exact stay (Or.inl c0)
  · rw [if_neg (nI_ge (by omega) (by omega)), show (2 : Int32) = nI 2 from rfl, m7_many_eq (by omega) ht hM2 hB, bd_some]
    have hc2 : sp_cnt B 2 t ≤ bE B := sp_cn_le B 2 t (bE B)
    by_cases c1 : 0 < sp_cnt B 2 t
    · rw [if_neg (fun q => by have := (nI_eq (by omega) (by omega)).mp q; omega)]
      exact stay (Or.inr (Or.inl c1))
    · rw [if_pos (by rw [show sp_cnt B 2 t = 0 by omega]), hM2.2.2.2.2.2.2.2.2]
      by_cases c2 : bod B = nI t
      · rw [if_pos c2]
        exact stay (Or.inr (Or.inr c2))
      · have hk : ¬ sp_kept B t := by
          rintro (q | q | q)
          · exact c0 q
          · exact c1 q
          · exact c2 q
        have hse : rSeat r2 < bP B := by rcases hin2 with q | q; exact absurd q.1 c0; exact q
        rw [if_neg c2, hR2.1, m7_whoIn_eq hse hM2 hB, bd_some, hR2.1]
        have hw := (hB.2.2.2.2.1 _ hse).1
        obtain ⟨-, q2, -⟩ := hM2.2.1 _ hw
        have e1 : sp_lost B t r2 = sy_min (rHold r2) (if 0 < sp_cnt B 1 t then 2 * sp_due B r2 else sp_due B r2) := by unfold sp_lost; rw [if_neg hk]
        have e2 : sp_pass B t r2 = sp_go B (sp_lost B t r2) r2 := by unfold sp_pass sp_go; rw [if_neg hk]
        rw [e2, e1]
        have last : ∀ y : Int32, y = (if 0 < sp_cnt B 1 t then 2 * sp_due B r2 else sp_due B r2) → Ok (m7_passes_J164 (nI t) (nI (bwh B (rSeat r2))) (b01 (rSeat r2 + 1 = bP B)) y σ2) (fun _ σ' => mFr σ σ' ∧ mRel σ' B (t + 1) 0 (sp_note t (sy_min (rHold r2) (if 0 < sp_cnt B 1 t then 2 * sp_due B r2 else sp_due B r2)) (sp_go B (sy_min (rHold r2) (if 0 < sp_cnt B 1 t then 2 * sp_due B r2 else sp_due B r2)) r2))) := by
          intro y hy
          rw [← hy]
          exact ok_mono (m7_J164 hB ht hse hR2) (fun _ σ' h => ⟨hfin σ' h.1, h.2⟩)
        have mid : Ok (m7_passes_J123 (nI t) (nI (bwh B (rSeat r2))) (b01 (rSeat r2 + 1 = bP B)) σ2) (fun _ σ' => mFr σ σ' ∧ mRel σ' B (t + 1) 0 (sp_note t (sy_min (rHold r2) (if 0 < sp_cnt B 1 t then 2 * sp_due B r2 else sp_due B r2)) (sp_go B (sy_min (rHold r2) (if 0 < sp_cnt B 1 t then 2 * sp_due B r2 else sp_due B r2)) r2))) := by
          unfold m7_passes_J123
          simp (disch := omega) only [nI_2, nI_1, gd_nI, sy_ix, ix_nI, q2, b01_0]
          have j146 : ∀ z : Int32, ble B (bwh B (rSeat r2)) + z = sp_due B r2 → Ok (m7_passes_J146 (nI t) (nI (bwh B (rSeat r2))) (b01 (rSeat r2 + 1 = bP B)) z (ble B (bwh B (rSeat r2))) σ2) (fun _ σ' => mFr σ σ' ∧ mRel σ' B (t + 1) 0 (sp_note t (sy_min (rHold r2) (if 0 < sp_cnt B 1 t then 2 * sp_due B r2 else sp_due B r2)) (sp_go B (sy_min (rHold r2) (if 0 < sp_cnt B 1 t then 2 * sp_due B r2 else sp_due B r2)) r2))) := by
            intro z hz'
            unfold m7_passes_J146
            rw [lt_eq, hz', show (1 : Int32) = nI 1 from rfl, m7_many_eq (by omega) ht hM2 hB, bd_some]
            have hc1 : sp_cnt B 1 t ≤ bE B := sp_cn_le B 1 t (bE B)
            by_cases c3 : 0 < sp_cnt B 1 t
            · rw [if_neg (nI_nle c3 (by omega))]
              exact last _ (by rw [if_pos c3])
            · rw [if_pos (by rw [show sp_cnt B 1 t = 0 by omega]; decide)]
              exact last _ (by rw [if_neg c3])
          by_cases c4 : rSeat r2 + 1 = bP B
          · rw [if_pos c4]
            exact j146 2 (by unfold sp_due; rw [if_pos c4])
          · rw [if_neg c4]
            exact j146 0 (by unfold sp_due; rw [if_neg c4])
        have hcor : nI (rSeat r2) = nI (bP B) - 1 ↔ rSeat r2 + 1 = bP B := by
          obtain ⟨p, hp⟩ : ∃ p, bP B = p + 1 := ⟨bP B - 1, by omega⟩
          rw [hp, nI_pred, nI_eq (by omega) (by omega)]
          omega
        show Ok (if nI (rSeat r2) = σ2 61 7 - 1 then _ else _) _
        rw [hM2.1]
        by_cases c4 : rSeat r2 + 1 = bP B
        · rw [if_pos (hcor.mpr c4)]
          have : b01 (rSeat r2 + 1 = bP B) = 1 := by unfold b01; rw [if_pos c4]
          rw [this] at mid
          exact mid
        · rw [if_neg (fun q => c4 (hcor.mp q))]
          have : b01 (rSeat r2 + 1 = bP B) = 0 := by unfold b01; rw [if_neg c4]
          rw [this] at mid
          exact mid
/-- what was HEARD, of a note that has not been yet -/
theorem sp_beat_st {B : Bd} {t j : Nat} {r : Rs} (h : bnb B j ≠ t) : rSt (sp_beat B t r) j = rSt r j := by
  have e : rSt (sp_beat B t r) = rSt (sp_all B t (bN B) (sp_steal B t r)) := by
    unfold sp_beat
    show rSt (sp_pass B t _) = _
    unfold sp_pass
    split <;> rfl
  rw [e, sp_all_st _ _ _ (Or.inr h)]
  rfl
theorem sp_run_st {B : Bd} : ∀ (t j : Nat), t ≤ bnb B j → rSt (sp_run B t) j = 0
  | 0, j, _ => rfl
  | t + 1, j, h => by
    show rSt (sp_beat B t (sp_run B t)) j = 0
    rw [sp_beat_st (by omega)]
    exact sp_run_st t j (by omega)
theorem m7_lives_loop {σ0 : St} {B : Bd} {Q : Unit → St → Prop} (hM : isM σ0 B) (hB : okB B) (E : St → Option (Unit × St)) (hE : ∀ σ, mFr σ0 σ → mRel σ B 24 0 (sp_run B 24) → Ok (E σ) Q) : ∀ (k t : Nat), t + k = 24 → ∀ n, k < n → ∀ σ, mFr σ0 σ → mRel σ B t 0 (sp_run B t) → Ok (m7_lives_L60 E n (nI t) σ) Q := by
  intro k
  induction k with
  | zero =>
    intro t ht n hn σ hF hR
    obtain ⟨n, rfl⟩ : ∃ m, n = m + 1 := ⟨n - 1, by omega⟩
    show Ok (m7_lives_L60b _ _ _ σ) Q
    unfold m7_lives_L60b
    rw [show (24 : Int32) = nI 24 from rfl, if_pos (nI_le (by omega) (by omega))]
    rw [show t = 24 by omega] at hR
    exact hE σ hF hR
  | succ k ih =>
    intro t ht n hn σ hF hR
    obtain ⟨n, rfl⟩ : ∃ m, n = m + 1 := ⟨n - 1, by omega⟩
    show Ok (m7_lives_L60b _ _ _ σ) Q
    unfold m7_lives_L60b
    rw [show (24 : Int32) = nI 24 from rfl, if_neg (nI_ge (by omega) (by omega))]
    refine ok_bd (m7_passes_sp (hF.isM hM) hB (by omega) (sp_in_run B t) (fun j _ h => sp_run_st t j h) hR) (fun _ σ1 h => ?_)
    rw [nI_1]
    exact ih (t + 1) (by omega) n (by omega) σ1 (hF.tr h.1) h.2
theorem m7_lives_L2_sp {σ0 : St} {Q : Unit → St → Prop} (E : St → Option (Unit × St)) (hE : ∀ σ, mFr σ0 σ → (∀ k, k < 11 → σ 75 k = 0 ∧ σ 76 k = 0 ∧ σ 77 k = 0) → Ok (E σ) Q) : ∀ (k i : Nat), i + k = 11 → ∀ n, k < n → ∀ σ, mFr σ0 σ → (∀ k, k < i → σ 75 k = 0 ∧ σ 76 k = 0 ∧ σ 77 k = 0) → Ok (m7_lives_L2 E n (nI i) σ) Q := by
  intro k
  induction k with
  | zero =>
    intro i hi n hn σ hF h
    obtain ⟨n, rfl⟩ : ∃ m, n = m + 1 := ⟨n - 1, by omega⟩
    show Ok (m7_lives_L2b _ _ _ σ) Q
    unfold m7_lives_L2b
    rw [show (11 : Int32) = nI 11 from rfl, if_pos (nI_le (by omega) (by omega))]
    rw [show i = 11 by omega] at h
    exact hE σ hF h
  | succ k ih =>
    intro i hi n hn σ hF h
    obtain ⟨n, rfl⟩ : ∃ m, n = m + 1 := ⟨n - 1, by omega⟩
    show Ok (m7_lives_L2b _ _ _ σ) Q
    unfold m7_lives_L2b
    rw [show (11 : Int32) = nI 11 from rfl, if_neg (nI_ge (by omega) (by omega))]
    simp (disch := omega) only [nI_1, gd_nI, sy_ix, ix_nI, lt_eq]
    refine ih (i + 1) (by omega) n (by omega) _ (hF.tr ⟨fun q hq => ?_, fun j hj => ?_⟩) (fun q hq => ?_)
    · rw [sf_n (by omega), sf_n (by omega), sf_n (by omega)]
    · rw [sf_n (by omega), sf_n (by omega), sf_n (by omega)]
    · simp only [sf_at]
      simp
      by_cases e : q = i
      · simp [e]
      · simp [e]
        exact h q (by omega)
/-- what is behind playing: all of it -/
def mRun (σ : St) (B : Bd) : Prop := mRel σ B 24 0 (sp_run B 24)
theorem m7_lives_sp {σ : St} {B : Bd} (hM : isM σ B) (hB : okB B) : Ok (m7_lives σ) (fun _ σ' => mFr σ σ' ∧ mRun σ' B) := by
  unfold m7_lives
  refine m7_lives_L2_sp (σ0 := σ) _ (fun σ1 hF hz => ?_) 11 0 (by omega) sy_FU (by show _ < 1000; omega) σ mFr.rf (fun k hk => by omega)
  simp (disch := omega) only [lt_eq, sf_n, sf_sn]
  have hf : mFr σ1 (sy_sf (sy_sf (sy_sf (sy_sf σ1 61 16 0) 61 17 (σ1 61 11)) 61 18 0) 61 19 0) := ⟨fun q hq => by rw [sf_n (by omega), sf_n (by omega), sf_n (by omega), sf_n (by omega)], fun j hj => by rw [sf_sn (by omega), sf_sn (by omega), sf_sn (by omega), sf_sn (by omega)]⟩
  have hM1 := (hF.tr hf).isM hM
  refine m7_lives_loop hM1 hB _ (fun σ2 hF2 hR2 => ?_) 24 0 (by omega) sy_FU (by show _ < 1000; omega) _ mFr.rf ?_
  · exact ok_some ⟨(hF.tr hf).tr hF2, hR2⟩
  · refine ⟨?_, ?_, ?_, ?_, ?_, ?_, ?_⟩
    · simp only [sf_at]; simp; rfl
    · simp only [sf_at]; simp; exact (hF.isM hM).2.2.2.2.1
    · simp only [sf_at]; simp; rfl
    · simp only [sf_at]; simp; rfl
    · intro k hk
      simp only [sf_at]; simp
      exact hz k hk
    · intro j hj hp
      omega
    · intro b hb
      omega
