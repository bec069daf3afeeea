/-! ===== promise 19: two change seats ===== -/
abbrev idS (B : Bd) : Prop := (∀ k, bsi B k = k) ∧ ∀ k, bwh B k = k
theorem idS_told (T : Td) : idS (sp_told T) := ⟨fun _ => rfl, fun _ => rfl⟩
theorem m0_changeSeats_eq {σ : St} {a b u w : Nat} (ha : a < 11) (hb : b < 11) (hab : a ≠ b) (h1 : σ 18 a = nI u) (h2 : σ 18 b = nI w) (hu : u < 11) (hw : w < 11) : m0_changeSeats 15 (nI a) (nI b) σ = some ((), sy_sf (sy_sf (sy_sf (sy_sf σ 18 a (nI w)) 18 b (nI u)) 19 w (nI a)) 19 u (nI b)) := by
  have hba : b ≠ a := fun e => hab e.symm
  unfold m0_changeSeats
  simp (disch := omega) only [gd_nI, sy_ix, ix_nI, lt_eq, Nat.reduceAdd, h1, h2, sf_ss, sf_sn, sf_n]
theorem isB.si {x y : St} {B C : Bd} (hC : C = (bP B, bso B, ble B, bsi C, bwh C, bN B, bnb B, bnp B, bbag B, bE B, bkd B, bbt B, bg B, bod B)) (h : ∀ k, k ≠ 18 → k ≠ 19 → y k = x k) (hs : ∀ k, k < bP B → y 18 k = nI (bsi C k) ∧ y 19 k = nI (bwh C k)) (g : isB x 15 B) : isB y 15 C := by
  rw [hC]
  obtain ⟨b0, b1, b2, b3, b4, b5, b6, b7, b8, b9⟩ := g
  unfold isB
  rw [h 15 (by omega) (by omega), h (15 + 1) (by omega) (by omega), h (15 + 2) (by omega) (by omega), h (15 + 5) (by omega) (by omega), h (15 + 6) (by omega) (by omega), h (15 + 7) (by omega) (by omega), h (15 + 8) (by omega) (by omega), h (15 + 9) (by omega) (by omega)]
  exact ⟨b0, fun k hk => ⟨(b1 k hk).1, (b1 k hk).2.1, (hs k hk).1, (hs k hk).2⟩, b2, b3, b4, b5, b6, b7, b8, b9⟩
theorem m0_change1 {σ : St} {B : Bd} {a b : Nat} (hB : isB σ 15 B) (hi : idS B) (hP : bP B ≤ 11) (hab : a < b) (hb : b < bP B) : Ok (m0_changeSeats 15 (nI a) (nI b) σ) (fun _ σ' => (∀ k, k ≠ 18 → k ≠ 19 → σ' k = σ k) ∧ isB σ' 15 (sp_setSi B a b)) := by
  have ea : σ 18 a = nI a := by have := (hB.2.1 a (by omega)).2.2.1; rwa [hi.1] at this
  have eb : σ 18 b = nI b := by have := (hB.2.1 b (by omega)).2.2.1; rwa [hi.1] at this
  rw [m0_changeSeats_eq (by omega) (by omega) (by omega) ea eb (by omega) (by omega)]
  have hF : ∀ k, k ≠ 18 → k ≠ 19 → (sy_sf (sy_sf (sy_sf (sy_sf σ 18 a (nI b)) 18 b (nI a)) 19 b (nI a)) 19 a (nI b)) k = σ k := fun k p q => by simp (disch := omega) only [sf_n]
  refine ok_some ⟨hF, isB.si (B := B) rfl hF (fun k hk => ⟨?_, ?_⟩) hB⟩
  · show _ = nI (sp_sw a b k)
    unfold sp_sw
    rw [sf_n (by omega), sf_n (by omega), sf_at, sf_at]
    have ek := (hB.2.1 k hk).2.2.1
    rw [hi.1] at ek
    by_cases c1 : k = a
    · rw [if_pos c1, if_neg (by omega), if_pos ⟨rfl, c1⟩]
    · rw [if_neg c1]
      by_cases c2 : k = b
      · rw [if_pos c2, if_pos ⟨rfl, c2⟩]
      · rw [if_neg c2, if_neg (fun q => c2 q.2), if_neg (fun q => c1 q.2)]; exact ek
  · show _ = nI (sp_sw a b k)
    unfold sp_sw
    rw [sf_at, sf_at, sf_n (by omega), sf_n (by omega)]
    have ek := (hB.2.1 k hk).2.2.2
    rw [hi.2] at ek
    by_cases c1 : k = a
    · rw [if_pos c1, if_pos ⟨rfl, c1⟩]
    · rw [if_neg c1, if_neg (fun q => c1 q.2)]
      by_cases c2 : k = b
      · rw [if_pos c2, if_pos ⟨rfl, c2⟩]
      · rw [if_neg c2, if_neg (fun q => c2 q.2)]; exact ek
theorem sp_sw_a (a b : Nat) : sp_sw a b a = b := if_pos rfl
theorem sp_sw_b {a b : Nat} (h : a < b) : sp_sw a b b = a := by unfold sp_sw; rw [if_neg (by omega), if_pos rfl]
theorem sp_sw_k {a b k : Nat} (h1 : k ≠ a) (h2 : k ≠ b) : sp_sw a b k = k := by unfold sp_sw; rw [if_neg h1, if_neg h2]
theorem m0_change2 {σ : St} {B : Bd} {a b : Nat} (hB : isB σ 15 (sp_setSi B a b)) (hi : idS B) (hP : bP B ≤ 11) (hab : a < b) (hb : b < bP B) : Ok (m0_changeSeats 15 (nI a) (nI b) σ) (fun _ σ' => (∀ k, k ≠ 18 → k ≠ 19 → σ' k = σ k) ∧ isB σ' 15 B) := by
  have hs : ∀ k, k < bP B → σ 18 k = nI (sp_sw a b k) ∧ σ 19 k = nI (sp_sw a b k) := fun k hk => ⟨(hB.2.1 k hk).2.2.1, (hB.2.1 k hk).2.2.2⟩
  have ea : σ 18 a = nI b := by have := (hs a (by omega)).1; rwa [sp_sw_a] at this
  have eb : σ 18 b = nI a := by have := (hs b (by omega)).1; rwa [sp_sw_b hab] at this
  rw [m0_changeSeats_eq (by omega) (by omega) (by omega) ea eb (by omega) (by omega)]
  have hF : ∀ k, k ≠ 18 → k ≠ 19 → (sy_sf (sy_sf (sy_sf (sy_sf σ 18 a (nI a)) 18 b (nI b)) 19 a (nI a)) 19 b (nI b)) k = σ k := fun k p q => by simp (disch := omega) only [sf_n]
  refine ok_some ⟨hF, isB.si (B := sp_setSi B a b) rfl hF (fun k hk => ⟨?_, ?_⟩) hB⟩
  · rw [hi.1, sf_n (by omega), sf_n (by omega), sf_at, sf_at]
    by_cases c2 : k = b
    · rw [if_pos ⟨rfl, c2⟩, c2]
    · rw [if_neg (fun q => c2 q.2)]
      by_cases c1 : k = a
      · rw [if_pos ⟨rfl, c1⟩, c1]
      · rw [if_neg (fun q => c1 q.2), (hs k hk).1, sp_sw_k c1 c2]
  · rw [hi.2, sf_at, sf_at, sf_n (by omega), sf_n (by omega)]
    by_cases c2 : k = b
    · rw [if_pos ⟨rfl, c2⟩, c2]
    · rw [if_neg (fun q => c2 q.2)]
      by_cases c1 : k = a
      · rw [if_pos ⟨rfl, c1⟩, c1]
      · rw [if_neg (fun q => c1 q.2), (hs k hk).2, sp_sw_k c1 c2]
abbrev swf (B : Bd) : Nat → Nat → Int32 := fun a b => sp_sd (sp_setSi B a b)
abbrev isBt (σ : St) (t : Tri) : Prop := isBe σ 47 t.1 t.2.1 t.2.2
theorem m6_swap_in {σ0 : St} {B : Bd} {a : Nat} {Q : Unit → St → Prop} {E : Int32 → St → Option (Unit × St)} (ho : okB B) (hi : idS B) (h0 : σ0 5 0 = nI (bP B)) (ha : a < bP B) (x : Tri) (hE : ∀ σ, cSr 47 σ0 σ → isB σ 15 B → isBt σ (sp_sw1 (swf B) a x (bP B - (a + 1))) → Ok (E (nI a) σ) Q) : ∀ (k i : Nat), i + k = bP B - (a + 1) → ∀ n, k < n → ∀ σ, cSr 47 σ0 σ → isB σ 15 B → isBt σ (sp_sw1 (swf B) a x i) → Ok (m6_searchSwap_L35 E n (nI a) (nI (a + 1 + i)) σ) Q := by
  have hP := ho.1
  intro k
  induction k with
  | zero =>
    intro i hi' n hn σ hF hB hT
    obtain ⟨n, rfl⟩ : ∃ m, n = m + 1 := ⟨n - 1, by omega⟩
    show Ok (m6_searchSwap_L35b _ _ _ _ σ) _
    unfold m6_searchSwap_L35b
    rw [hF 5 (by omega), h0, if_pos (nI_le (by omega) (by omega))]
    rw [show i = bP B - (a + 1) by omega] at hT
    exact hE σ hF hB hT
  | succ k ih =>
    intro i hi' n hn σ hF hB hT
    obtain ⟨n, rfl⟩ : ∃ m, n = m + 1 := ⟨n - 1, by omega⟩
    show Ok (m6_searchSwap_L35b _ _ _ _ σ) _
    unfold m6_searchSwap_L35b
    rw [hF 5 (by omega), h0, if_neg (nI_ge (by omega) (by omega))]
    refine ok_bd (m0_change1 hB hi hP (show a < a + 1 + i by omega) (by omega)) (fun _ σ1 g1 => ?_)
    refine ok_bd (m6_tried_sp g1.2 (okB_si (by omega) (by omega) ho)) (fun r σ2 g2 => ?_)
    obtain ⟨rfl, g2⟩ := g2
    have hT2 : isBt σ2 (sp_sw1 (swf B) a x i) := hT.of (by rw [g2 47 (by omega), g1.1 47 (by omega) (by omega)])
    refine ok_bd (m1_offer_sp hT2 _ _ _) (fun _ σ3 g3 => ?_)
    have hB3 : isB σ3 15 (sp_setSi B a (a + 1 + i)) := (cFr.kB (by omega) g2 g1.2).of (fun k p q => g3.1 k (by omega))
    refine ok_bd (m0_change2 hB3 hi hP (show a < a + 1 + i by omega) (by omega)) (fun _ σ4 g4 => ?_)
    rw [nI_1, show a + 1 + i + 1 = a + 1 + (i + 1) by omega]
    refine ih (i + 1) (by omega) n (by omega) σ4 (fun k z => by rw [g4.1 k (by omega) (by omega), g3.1 k (by omega), g2 k (by omega), g1.1 k (by omega) (by omega)]; exact hF k z) g4.2 ?_
    have q := g3.2
    rw [show sp_sw1 (swf B) a x (i + 1) = if (sp_sw1 (swf B) a x i).2.2 < swf B a (a + 1 + i) then (nI a, nI (a + 1 + i), swf B a (a + 1 + i)) else sp_sw1 (swf B) a x i from rfl]
    by_cases z : (sp_sw1 (swf B) a x i).2.2 < swf B a (a + 1 + i)
    · rw [if_pos z] at q ⊢
      exact isBe.of (g4.1 47 (by omega) (by omega)) q
    · rw [if_neg z] at q ⊢
      exact isBe.of (g4.1 47 (by omega) (by omega)) q
theorem m6_swap_out {σ0 : St} {B : Bd} (ho : okB B) (hi : idS B) (h0 : σ0 5 0 = nI (bP B)) : ∀ (k a : Nat), a + k = bP B → ∀ n, k < n → ∀ σ, cSr 47 σ0 σ → isB σ 15 B → isBt σ (sp_sw2 (swf B) (bP B) a) → Ok (m6_searchSwap_L20 (fun σ14 => some ((), σ14)) n (nI a) σ) (fun _ σ' => cSr 47 σ0 σ' ∧ isBt σ' (sp_sw2 (swf B) (bP B) (bP B))) := by
  have hP := ho.1
  intro k
  induction k with
  | zero =>
    intro a ha n hn σ hF hB hT
    obtain ⟨n, rfl⟩ : ∃ m, n = m + 1 := ⟨n - 1, by omega⟩
    show Ok (m6_searchSwap_L20b _ _ _ σ) _
    unfold m6_searchSwap_L20b
    rw [hF 5 (by omega), h0, if_pos (nI_le (by omega) (by omega))]
    rw [show a = bP B by omega] at hT
    exact ok_some ⟨hF, hT⟩
  | succ k ih =>
    intro a ha n hn σ hF hB hT
    obtain ⟨n, rfl⟩ : ∃ m, n = m + 1 := ⟨n - 1, by omega⟩
    show Ok (m6_searchSwap_L20b _ _ _ σ) _
    unfold m6_searchSwap_L20b
    rw [hF 5 (by omega), h0, if_neg (nI_ge (by omega) (by omega)), lt_eq, nI_1]
    refine m6_swap_in ho hi h0 (by omega) (sp_sw2 (swf B) (bP B) a) (fun σ1 f1 b1 t1 => ?_) _ 0 (Nat.zero_add _) sy_FU (by show _ < 1000; omega) σ hF hB hT
    rw [nI_1]
    exact ih (a + 1) (by omega) n (by omega) σ1 f1 b1 t1
def an_swap (T : Td) (a : Int32) : Int32 := if 0 ≤ a ∧ a ≤ 2 then (if a = 0 then (sp_swap T).1 else if a = 1 then (sp_swap T).2.1 else (sp_swap T).2.2) else -2
theorem cl_swap {σ : St} {T : Td} (hT : okT T) (hC : isCT σ T) (a : Int32) : CL (m6_swap a σ) σ (an_swap T a) T := by
  have hP := (okB_told hT).1
  unfold m6_swap an_swap
  rw [m6_within_eq, bd_some, b01_0]
  by_cases ca : 0 ≤ a ∧ a ≤ 2
  · rw [if_pos ca, if_pos ca]
    have fin : ∀ σ', clF σ σ' → isCT σ' T → kS σ' T → CL (m6_swap_J26 a σ') σ (if a = 0 then (sp_swap T).1 else if a = 1 then (sp_swap T).2.1 else (sp_swap T).2.2) T := by
      intro σ' h1 h2 h3
      unfold m6_swap_J26
      by_cases c0 : a = 0
      · rw [if_pos c0, if_pos c0]; exact ok_some ⟨h3.2.1, h1, h2⟩
      · rw [if_neg c0, if_neg c0]
        by_cases c1 : a = 1
        · rw [if_pos c1, if_pos c1]; exact ok_some ⟨h3.2.2.1, h1, h2⟩
        · rw [if_neg c1, if_neg c1]; exact ok_some ⟨h3.2.2.2, h1, h2⟩
    rcases hC.2.2.2.2.1 with h0 | h1
    · rw [if_pos h0]
      have key : Ok (m6_searchSwap σ) (fun _ σ' => cSr 47 σ σ' ∧ isBt σ' (sp_swap T)) := by
        unfold m6_searchSwap
        refine m6_begin_sp (c := 47) hT hC (fun σ1 f1 b1 e1 => ?_) (by omega)
        exact m6_swap_out (okB_told hT) (idS_told T) hC.1.2.2.1.1 _ 0 (Nat.zero_add _) sy_FU (by show _ < 1000; omega) σ1 f1 b1 e1
      refine ok_bd key (fun _ σ1 g => ?_)
      exact fin σ1 (g.1.cl (by omega)) (g.1.CT (by omega) hC (fun q => by omega) (fun _ => g.2) (fun q => by omega) (fun q => by omega)) g.2
    · rw [if_neg (by rw [h1.1]; decide)]
      exact fin σ clF.rf hC h1
  · rw [if_neg ca, if_neg ca]
    exact ok_some ⟨rfl, clF.rf, hC⟩
/-! the reference's -/
def mS8 (σ0 σ : St) : Prop := (∀ k, ¬ (k = 61 ∨ (71 ≤ k ∧ k ≤ 78)) → σ k = σ0 k) ∧ ∀ j, ¬ (16 ≤ j ∧ j ≤ 19) → σ 61 j = σ0 61 j
theorem mS8.wk {a b : St} (h : mS8 a b) : mWk a b := ⟨fun k q => h.1 k (by omega), fun j q => h.2 j (by omega)⟩
def enc (t : Tri) (x : Int32) : Prop := (t = (-1, -1, -1) ∧ x = -1) ∨ ∃ a b : Nat, a < 11 ∧ b < 11 ∧ t.1 = nI a ∧ t.2.1 = nI b ∧ x = nI (16 * a + b)
theorem isM.si {x y : St} {B : Bd} {si wh : Nat → Nat} (h : ∀ k, k ≠ 78 → y k = x k) (hs : ∀ k, k < bP B → y 78 k = nI (si k)) (g : isM x B) : isM y (bP B, bso B, ble B, si, wh, bN B, bnb B, bnp B, bbag B, bE B, bkd B, bbt B, bg B, bod B) := by
  unfold isM
  rw [h 61 (by omega), h 68 (by omega), h 69 (by omega), h 70 (by omega)]
  exact ⟨g.1, fun k hk => ⟨(g.2.1 k hk).1, (g.2.1 k hk).2.1, hs k hk⟩, g.2.2⟩
theorem m7_swap_in {σ0 : St} {B : Bd} {a : Nat} {a1 : Int32} {Q : Int32 → St → Prop} {E : Int32 → Int32 → Int32 → Int32 → St → Option (Int32 × St)} (ho : okB B) (hi : idS B) (ha : a < bP B) (x : Tri) (hE : ∀ σ z, mS8 σ0 σ → isM σ B → enc (sp_sw1 (swf B) a x (bP B - (a + 1))) z → Ok (E a1 z (sp_sw1 (swf B) a x (bP B - (a + 1))).2.2 (nI a) σ) Q) : ∀ (k i : Nat), i + k = bP B - (a + 1) → ∀ n, k < n → ∀ σ z, mS8 σ0 σ → isM σ B → enc (sp_sw1 (swf B) a x i) z → Ok (m7_swapBy_L22 E n a1 z (sp_sw1 (swf B) a x i).2.2 (nI a) (nI (a + 1 + i)) σ) Q := by
  have hP := ho.1
  intro k
  induction k with
  | zero =>
    intro i hi' n hn σ z hF hB hT
    obtain ⟨n, rfl⟩ : ∃ m, n = m + 1 := ⟨n - 1, by omega⟩
    show Ok (m7_swapBy_L22b _ _ _ _ _ _ _ σ) _
    unfold m7_swapBy_L22b
    rw [hB.1, if_pos (nI_le (by omega) (by omega))]
    rw [show i = bP B - (a + 1) by omega] at hT ⊢
    exact hE σ z hF hB hT
  | succ k ih =>
    intro i hi' n hn σ z hF hB hT
    obtain ⟨n, rfl⟩ : ∃ m, n = m + 1 := ⟨n - 1, by omega⟩
    show Ok (m7_swapBy_L22b _ _ _ _ _ _ _ σ) _
    unfold m7_swapBy_L22b
    rw [hB.1, if_neg (nI_ge (by omega) (by omega))]
    simp (disch := omega) only [gd_nI, sy_ix, ix_nI, lt_eq]
    have hB1 : isM (sy_sf (sy_sf σ 78 a (nI (a + 1 + i))) 78 (a + 1 + i) (nI a)) (sp_setSi B a (a + 1 + i)) := by
      refine isM.si (x := σ) (fun k q => by simp (disch := omega) only [sf_n]) (fun k hk => ?_) hB
      unfold sp_sw
      rw [sf_at, sf_at]
      have ek := (hB.2.1 k hk).2.2
      rw [hi.1] at ek
      by_cases c1 : k = a
      · rw [if_pos c1, if_neg (by omega), if_pos ⟨rfl, c1⟩]
      · rw [if_neg c1]
        by_cases c2 : k = a + 1 + i
        · rw [if_pos c2, if_pos ⟨rfl, c2⟩]
        · rw [if_neg c2, if_neg (fun q => c2 q.2), if_neg (fun q => c1 q.2)]; exact ek
    refine m7_try_sp hB1 (okB_si (by omega) (by omega) ho) (fun σ1 g m1 r1 => ?_)
    have hsw : ∀ k, k < bP B → σ1 78 k = nI (sp_sw a (a + 1 + i) k) := fun k hk => (m1.2.1 k hk).2.2
    have m2 : isM (sy_sf (sy_sf σ1 78 a (nI a)) 78 (a + 1 + i) (nI (a + 1 + i))) B := by
      have : B = (bP B, bso B, ble B, bsi B, bwh B, bN B, bnb B, bnp B, bbag B, bE B, bkd B, bbt B, bg B, bod B) := rfl
      rw [this]
      refine isM.si (B := sp_setSi B a (a + 1 + i)) (x := σ1) (fun k q => by simp (disch := omega) only [sf_n]) (fun k hk => ?_) m1
      rw [hi.1, sf_at, sf_at]
      by_cases c2 : k = a + 1 + i
      · rw [if_pos ⟨rfl, c2⟩, c2]
      · rw [if_neg (fun q => c2 q.2)]
        by_cases c1 : k = a
        · rw [if_pos ⟨rfl, c1⟩, c1]
        · rw [if_neg (fun q => c1 q.2), hsw k hk, sp_sw_k c1 c2]
    have f2 : mS8 σ0 (sy_sf (sy_sf σ1 78 a (nI a)) 78 (a + 1 + i) (nI (a + 1 + i))) := ⟨fun k q => by
      rw [sf_n (by omega), sf_n (by omega), g.1 k (by omega), sf_n (by omega), sf_n (by omega)]; exact hF.1 k q, fun j q => by
      rw [sf_n (by omega), sf_n (by omega), g.2 j q, sf_n (by omega), sf_n (by omega)]; exact hF.2 j q⟩
    have hk := fun z => ih (i + 1) (by omega) n (by omega) _ z f2 m2
    rw [show sp_sw1 (swf B) a x (i + 1) = if (sp_sw1 (swf B) a x i).2.2 < swf B a (a + 1 + i) then (nI a, nI (a + 1 + i), swf B a (a + 1 + i)) else sp_sw1 (swf B) a x i from rfl] at hk
    unfold m7_swapBy_J77
    simp (disch := omega) only [gd_nI, sy_ix, ix_nI, lt_eq, nI_16, nI_add, nI_1, show a + 1 + i + 1 = a + 1 + (i + 1) by omega]
    by_cases c : sp_sd (sp_setSi B a (a + 1 + i)) ≤ (sp_sw1 (swf B) a x i).2.2
    · rw [if_pos c, (grt σ1).2 c, bd_some]
      rw [if_neg (fun w => by have w : (sp_sw1 (swf B) a x i).2.2 < sp_sd (sp_setSi B a (a + 1 + i)) := w; have q1 := i32_le.mp c; have q2 := i32_lt.mp w; omega)] at hk
      exact hk z hT
    · have c' : (sp_sw1 (swf B) a x i).2.2 < swf B a (a + 1 + i) := i32_lt.mpr (by have := mt i32_le.mpr c; show _ < (sp_sd (sp_setSi B a (a + 1 + i))).toInt; omega)
      rw [if_neg c, (grt σ1).1 c', bd_some]
      rw [if_pos c'] at hk
      exact hk _ (Or.inr ⟨a, a + 1 + i, by omega, by omega, rfl, rfl, rfl⟩)
theorem m7_swap_out {σ0 : St} {B : Bd} {a1 : Int32} {Q : Int32 → St → Prop} {E : Int32 → Int32 → Int32 → St → Option (Int32 × St)} (ho : okB B) (hi : idS B) (hE : ∀ σ z, mS8 σ0 σ → enc (sp_sw2 (swf B) (bP B) (bP B)) z → Ok (E a1 z (sp_sw2 (swf B) (bP B) (bP B)).2.2 σ) Q) : ∀ (k a : Nat), a + k = bP B → ∀ n, k < n → ∀ σ z, mS8 σ0 σ → isM σ B → enc (sp_sw2 (swf B) (bP B) a) z → Ok (m7_swapBy_L7 E n a1 z (sp_sw2 (swf B) (bP B) a).2.2 (nI a) σ) Q := by
  have hP := ho.1
  intro k
  induction k with
  | zero =>
    intro a ha n hn σ z hF hB hT
    obtain ⟨n, rfl⟩ : ∃ m, n = m + 1 := ⟨n - 1, by omega⟩
    show Ok (m7_swapBy_L7b _ _ _ _ _ _ σ) _
    unfold m7_swapBy_L7b
    rw [hB.1, if_pos (nI_le (by omega) (by omega))]
    rw [show a = bP B by omega] at hT ⊢
    exact hE σ z hF hT
  | succ k ih =>
    intro a ha n hn σ z hF hB hT
    obtain ⟨n, rfl⟩ : ∃ m, n = m + 1 := ⟨n - 1, by omega⟩
    show Ok (m7_swapBy_L7b _ _ _ _ _ _ σ) _
    unfold m7_swapBy_L7b
    rw [hB.1, if_neg (nI_ge (by omega) (by omega)), lt_eq, nI_1]
    refine m7_swap_in ho hi (by omega) (sp_sw2 (swf B) (bP B) a) (fun σ1 z1 f1 b1 t1 => ?_) _ 0 (Nat.zero_add _) sy_FU (by show _ < 1000; omega) σ z hF hB hT
    rw [nI_1]
    exact ih (a + 1) (by omega) n (by omega) σ1 z1 f1 b1 t1
theorem md_swap {σ : St} {T : Td} (hT : okT T) (hM : isMT σ T) (a : Int32) : MD (m7_swap a σ) σ (an_swap T a) T := by
  have hP := (okB_told hT).1
  unfold m7_swap an_swap
  refine md_find hT hM (fun σ1 f1 m1 b1 r1 => ?_)
  rw [show m7_in a.toInt64 0 2 σ1 = _ from m7_in32 a 0 2 σ1, bd_some, b01_0]
  by_cases ca : 0 ≤ a ∧ a ≤ 2
  · rw [if_pos ca, if_pos ca]
    unfold m7_swapBy
    refine ok_bd (P := fun y σ' => y = (if a = 0 then (sp_swap T).1 else if a = 1 then (sp_swap T).2.1 else (sp_swap T).2.2) ∧ mS8 σ1 σ') ?_ (fun y σ2 g => ok_some ⟨g.1, f1.tr g.2.wk.md, g.2.wk.MT m1⟩)
    refine m7_swap_out (okB_told hT) (idS_told T) (fun σ2 z h2 e2 => ?_) _ 0 (Nat.zero_add _) sy_FU (by show _ < 1000; omega) σ1 (-1) ⟨fun _ _ => rfl, fun _ _ => rfl⟩ b1 (Or.inl ⟨rfl, rfl⟩)
    have e2 : enc (sp_swap T) z := e2
    show Ok (if z = -1 then _ else _) _
    rcases e2 with ⟨t0, rfl⟩ | ⟨u, w, hu, hw, t1, t2, rfl⟩
    · rw [if_pos rfl]
      refine ok_some ⟨?_, h2⟩
      rw [t0]
      by_cases c0 : a = 0
      · rw [if_pos c0]
      · rw [if_neg c0]
        by_cases c1 : a = 1
        · rw [if_pos c1]
        · rw [if_neg c1]
    · rw [if_neg (fun q => nI_pos (n := 16 * u + w) (by omega) (by rw [q]; decide)), dv_ne (by decide), dv_ne (by decide)]
      by_cases c0 : a = 0
      · rw [if_pos c0, if_pos c0]
        refine ok_some ⟨?_, h2⟩
        rw [t1, show nI (16 * u + w) / 16 = nI ((16 * u + w) / 16) from pk_div (d := 16) (by omega) (by omega) (by omega)]
        congr 1; omega
      · rw [if_neg c0, if_neg c0]
        by_cases c1 : a = 1
        · rw [if_pos c1, if_pos c1]
          refine ok_some ⟨?_, h2⟩
          rw [t2, show nI (16 * u + w) - nI (16 * u + w) / 16 * 16 = nI ((16 * u + w) % 16) from pk_rem (d := 16) (by omega) (by omega) (by omega)]
          congr 1; omega
        · rw [if_neg c1, if_neg c1]
          exact ok_some ⟨rfl, h2⟩
  · rw [if_neg ca, if_neg ca]
    exact ok_some ⟨rfl, f1, m1⟩
