/-! ===== promise 21: what would have to be left out ===== -/
theorem sp_fi_up {p : Nat → Prop} [DecidablePred p] {lo i a : Nat} (h : sp_fi p lo i = some a) : ∀ n, i ≤ n → sp_fi p lo n = some a
  | 0, q => by rw [show i = 0 by omega] at h; exact h
  | n + 1, q => by
    by_cases e : i = n + 1
    · rw [e] at h; exact h
    · have := sp_fi_up h n (by omega)
      unfold sp_fi
      rw [this]
theorem sp_fi_y {p : Nat → Prop} [DecidablePred p] {lo i : Nat} (h : sp_fi p lo i = none) (hp : p (lo + i)) : sp_fi p lo (i + 1) = some (lo + i) := by
  unfold sp_fi
  rw [h]
  exact if_pos hp
theorem sp_fi_n {p : Nat → Prop} [DecidablePred p] {lo i : Nat} (h : sp_fi p lo i = none) (hp : ¬ p (lo + i)) : sp_fi p lo (i + 1) = none := by
  unfold sp_fi
  rw [h]
  exact if_neg hp
theorem sp_f2_up {p : Nat → Nat → Prop} [∀ a, DecidablePred (p a)] {E i : Nat} {x : Nat × Nat} (h : sp_f2 p E i = some x) : ∀ n, i ≤ n → sp_f2 p E n = some x
  | 0, q => by rw [show i = 0 by omega] at h; exact h
  | n + 1, q => by
    by_cases e : i = n + 1
    · rw [e] at h; exact h
    · have := sp_f2_up h n (by omega)
      unfold sp_f2
      rw [this]
theorem sp_f2_y {p : Nat → Nat → Prop} [∀ a, DecidablePred (p a)] {E a b : Nat} (h : sp_f2 p E a = none) (hp : sp_fi (p a) (a + 1) (E - (a + 1)) = some b) : sp_f2 p E (a + 1) = some (a, b) := by
  unfold sp_f2
  rw [h]
  show Option.map _ (sp_fi (p a) (a + 1) (E - (a + 1))) = _
  rw [hp]; rfl
theorem sp_f2_n {p : Nat → Nat → Prop} [∀ a, DecidablePred (p a)] {E a : Nat} (h : sp_f2 p E a = none) (hp : sp_fi (p a) (a + 1) (E - (a + 1)) = none) : sp_f2 p E (a + 1) = none := by
  unfold sp_f2
  rw [h]
  show Option.map _ (sp_fi (p a) (a + 1) (E - (a + 1))) = _
  rw [hp]; rfl
theorem isB.g {x y : St} {b : Nat} {B : Bd} {v : Int32} (h : ∀ k, b < k → k ≤ b + 9 → y k = x k) (h5 : ∀ j, j ≠ 13 → y b j = x b j) (h9 : y b 13 = v) (g : isB x b B) : isB y b (sp_setG B v) := by
  obtain ⟨b0, b1, b2, b3, b4, b5, b6, b7, b8, b9⟩ := g
  unfold isB
  rw [h (b + 1) (by omega) (by omega), h (b + 2) (by omega) (by omega), h (b + 3) (by omega) (by omega), h (b + 4) (by omega) (by omega), h (b + 5) (by omega) (by omega), h (b + 6) (by omega) (by omega), h (b + 7) (by omega) (by omega), h (b + 8) (by omega) (by omega), h (b + 9) (by omega) (by omega), h5 0 (by omega), h5 5 (by omega), h5 10 (by omega), h5 14 (by omega), h5 9 (by omega), h9]
  exact ⟨b0, b1, b2, b3, b4, b5, b6, b7, rfl, b9⟩
abbrev exG (σ : St) (B : Bd) : Prop := ∃ x, isB σ 15 (sp_setG B x)
theorem m6_noneMissed_sp {σ0 σ : St} {B : Bd} {c : Nat} (ho : okB B) (hc : 46 ≤ c ∧ c ≤ 49) (hF : cSr c σ0 σ) (hB : exG σ B) (g : Int32) : Ok (m6_noneMissedWithout g σ) (fun y σ' => y = b01 (sp_nm B g) ∧ cSr c σ0 σ' ∧ exG σ' B ∧ σ' c = σ c) := by
  obtain ⟨x, hB⟩ := hB
  unfold m6_noneMissedWithout
  rw [lt_eq]
  have hB1 : isB (sy_sf σ 15 13 g) 15 (sp_setG B g) := isB.g (B := sp_setG B x) (fun k a b => sf_n (by omega)) (fun j hj => sf_sn hj) (sf_ss _ _ _ _) hB
  refine ok_bd (m3_play_sp (by omega) hB1 (okB_g ho)) (fun _ σ1 h => ?_)
  have e9 : σ1 34 9 = rMiss (sp_run (sp_setG B g) 24) := h.2.2.2.2.2.2.2.1
  have fr : cSr c σ0 σ1 := fun k z => by rw [h.1 k (by omega), sf_n (by omega)]; exact hF k z
  have fc : σ1 c = σ c := by rw [h.1 c (by omega), sf_n (by omega)]
  rw [e9, zg_1, zg_0]
  unfold b01
  by_cases q : rMiss (sp_run (sp_setG B g) 24) = 0
  · rw [if_pos q, if_pos q]; exact ok_some ⟨rfl, fr, ⟨_, cFr.kB (by omega) h.1 hB1⟩, fc⟩
  · rw [if_neg q, if_neg q]; exact ok_some ⟨rfl, fr, ⟨_, cFr.kB (by omega) h.1 hB1⟩, fc⟩
abbrev sp1 (B : Bd) : Nat → Prop := fun a => sp_nm B (sp_m1 a)
abbrev sp2 (B : Bd) : Nat → Nat → Prop := fun a b => sp_nm B (sp_m1 a ||| sp_m1 b)
abbrev isSp (σ0 σ : St) (B : Bd) : Prop := cSr 49 σ0 σ ∧ exG σ B ∧ isBe σ 49 (-1) (-1) (-1)
theorem m6_spare_1 {σ0 : St} {B : Bd} {Q : Unit → St → Prop} {E1 : Int32 → St → Option (Unit × St)} {E2 : St → Option (Unit × St)} (ho : okB B) (h0 : σ0 5 10 = nI (bE B)) (h1 : ∀ σ a, isSp σ0 σ B → sp_fi (sp1 B) 0 (bE B) = some a → Ok (E1 (nI a) σ) Q) (h2 : ∀ σ, isSp σ0 σ B → sp_fi (sp1 B) 0 (bE B) = none → Ok (E2 σ) Q) : ∀ (k i : Nat), i + k = bE B → ∀ n, k < n → sp_fi (sp1 B) 0 i = none → ∀ σ, isSp σ0 σ B → Ok (m6_searchSpare_L39 E1 E2 n (nI i) σ) Q := by
  have hE := ho.2.2.1
  intro k
  induction k with
  | zero =>
    intro i hi n hn hz σ hS
    obtain ⟨n, rfl⟩ : ∃ m, n = m + 1 := ⟨n - 1, by omega⟩
    show Ok (m6_searchSpare_L39b _ _ _ _ σ) _
    unfold m6_searchSpare_L39b
    rw [hS.1 5 (by omega), h0, if_pos (nI_le (by omega) (by omega))]
    rw [show i = bE B by omega] at hz
    exact h2 σ hS hz
  | succ k ih =>
    intro i hi n hn hz σ hS
    obtain ⟨n, rfl⟩ : ∃ m, n = m + 1 := ⟨n - 1, by omega⟩
    show Ok (m6_searchSpare_L39b _ _ _ _ σ) _
    unfold m6_searchSpare_L39b
    rw [hS.1 5 (by omega), h0, if_neg (nI_ge (by omega) (by omega))]
    refine ok_bd (m6_noneMissed_sp (c := 49) ho (by omega) hS.1 hS.2.1 (1 <<< (nI i &&& 31))) (fun y σ1 g => ?_)
    obtain ⟨rfl, g1, g2, g3⟩ := g
    have hS1 : isSp σ0 σ1 B := ⟨g1, g2, hS.2.2.of g3⟩
    rw [b01_0]
    by_cases c : sp_nm B (1 <<< (nI i &&& 31))
    · rw [if_pos c]
      have c : sp1 B (0 + i) := by rw [Nat.zero_add]; exact c
      have e := sp_fi_up (sp_fi_y hz c) (bE B) (by omega)
      rw [Nat.zero_add] at e
      exact h1 σ1 i hS1 e
    · rw [if_neg c, nI_1]
      have c : ¬ sp1 B (0 + i) := by rw [Nat.zero_add]; exact c
      exact ih (i + 1) (by omega) n (by omega) (sp_fi_n hz c) σ1 hS1
theorem m6_spare_2 {σ0 : St} {B : Bd} {a : Nat} {Q : Unit → St → Prop} {E1 : Int32 → Int32 → St → Option (Unit × St)} {E2 : Int32 → St → Option (Unit × St)} (ho : okB B) (h0 : σ0 5 10 = nI (bE B)) (h1 : ∀ σ b, isSp σ0 σ B → sp_fi (sp2 B a) (a + 1) (bE B - (a + 1)) = some b → Ok (E1 (nI a) (nI b) σ) Q) (h2 : ∀ σ, isSp σ0 σ B → sp_fi (sp2 B a) (a + 1) (bE B - (a + 1)) = none → Ok (E2 (nI a) σ) Q) (ha : a < bE B) : ∀ (k i : Nat), i + k = bE B - (a + 1) → ∀ n, k < n → sp_fi (sp2 B a) (a + 1) i = none → ∀ σ, isSp σ0 σ B → Ok (m6_searchSpare_L94 E1 E2 n (nI a) (nI (a + 1 + i)) σ) Q := by
  have hE := ho.2.2.1
  intro k
  induction k with
  | zero =>
    intro i hi n hn hz σ hS
    obtain ⟨n, rfl⟩ : ∃ m, n = m + 1 := ⟨n - 1, by omega⟩
    show Ok (m6_searchSpare_L94b _ _ _ _ _ σ) _
    unfold m6_searchSpare_L94b
    rw [hS.1 5 (by omega), h0, if_pos (nI_le (by omega) (by omega))]
    rw [show i = bE B - (a + 1) by omega] at hz
    exact h2 σ hS hz
  | succ k ih =>
    intro i hi n hn hz σ hS
    obtain ⟨n, rfl⟩ : ∃ m, n = m + 1 := ⟨n - 1, by omega⟩
    show Ok (m6_searchSpare_L94b _ _ _ _ _ σ) _
    unfold m6_searchSpare_L94b
    rw [hS.1 5 (by omega), h0, if_neg (nI_ge (by omega) (by omega))]
    refine ok_bd (m6_noneMissed_sp (c := 49) ho (by omega) hS.1 hS.2.1 ((1 <<< (nI a &&& 31)) ||| (1 <<< (nI (a + 1 + i) &&& 31)))) (fun y σ1 g => ?_)
    obtain ⟨rfl, g1, g2, g3⟩ := g
    have hS1 : isSp σ0 σ1 B := ⟨g1, g2, hS.2.2.of g3⟩
    rw [b01_0]
    by_cases c : sp_nm B ((1 <<< (nI a &&& 31)) ||| (1 <<< (nI (a + 1 + i) &&& 31)))
    · rw [if_pos c]
      have c : sp2 B a (a + 1 + i) := c
      exact h1 σ1 _ hS1 (sp_fi_up (sp_fi_y hz c) _ (by omega))
    · rw [if_neg c, nI_1]
      have c : ¬ sp2 B a (a + 1 + i) := c
      exact ih (i + 1) (by omega) n (by omega) (sp_fi_n hz c) σ1 hS1
theorem m6_spare_3 {σ0 : St} {B : Bd} {Q : Unit → St → Prop} {E1 : Int32 → Int32 → St → Option (Unit × St)} {E2 : St → Option (Unit × St)} (ho : okB B) (h0 : σ0 5 10 = nI (bE B)) (h1 : ∀ σ x, isSp σ0 σ B → sp_f2 (sp2 B) (bE B) (bE B) = some x → Ok (E1 (nI x.1) (nI x.2) σ) Q) (h2 : ∀ σ, isSp σ0 σ B → sp_f2 (sp2 B) (bE B) (bE B) = none → Ok (E2 σ) Q) : ∀ (k a : Nat), a + k = bE B → ∀ n, k < n → sp_f2 (sp2 B) (bE B) a = none → ∀ σ, isSp σ0 σ B → Ok (m6_searchSpare_L79 E1 E2 n (nI a) σ) Q := by
  have hE := ho.2.2.1
  intro k
  induction k with
  | zero =>
    intro i hi n hn hz σ hS
    obtain ⟨n, rfl⟩ : ∃ m, n = m + 1 := ⟨n - 1, by omega⟩
    show Ok (m6_searchSpare_L79b _ _ _ _ σ) _
    unfold m6_searchSpare_L79b
    rw [hS.1 5 (by omega), h0, if_pos (nI_le (by omega) (by omega))]
    rw [show i = bE B by omega] at hz
    exact h2 σ hS hz
  | succ k ih =>
    intro a hi n hn hz σ hS
    obtain ⟨n, rfl⟩ : ∃ m, n = m + 1 := ⟨n - 1, by omega⟩
    show Ok (m6_searchSpare_L79b _ _ _ _ σ) _
    unfold m6_searchSpare_L79b
    rw [hS.1 5 (by omega), h0, if_neg (nI_ge (by omega) (by omega)), lt_eq, nI_1]
    refine m6_spare_2 ho h0 (fun σ1 b s1 q => h1 σ1 (a, b) s1 (sp_f2_up (sp_f2_y hz q) _ (by omega))) (fun σ1 s1 q => ?_) (by omega) _ 0 (Nat.zero_add _) sy_FU (by show _ < 1000; omega) rfl σ hS
    rw [nI_1]
    exact ih (a + 1) (by omega) n (by omega) (sp_f2_n hz q) σ1 s1
def an_spare (T : Td) (a : Int32) : Int32 := if -1 ≤ a ∧ a ≤ 1 then (if a = -1 then (sp_spare (sp_told T)).2.2 else if a = 0 then (sp_spare (sp_told T)).1 else (sp_spare (sp_told T)).2.1) else -2
theorem sp_spare_0 {B : Bd} (h : sp_nm B 0) : sp_spare B = (-1, -1, 0) := by unfold sp_spare; rw [if_pos h]
theorem sp_spare_1 {B : Bd} {a : Nat} (h : ¬ sp_nm B 0) (h1 : sp_fi (sp1 B) 0 (bE B) = some a) : sp_spare B = (nI a, -1, 1) := by unfold sp_spare; rw [if_neg h, h1]
theorem sp_spare_2 {B : Bd} {x : Nat × Nat} (h : ¬ sp_nm B 0) (h1 : sp_fi (sp1 B) 0 (bE B) = none) (h2 : sp_f2 (sp2 B) (bE B) (bE B) = some x) : sp_spare B = (nI x.1, nI x.2, 2) := by unfold sp_spare; rw [if_neg h, h1, h2]
theorem sp_spare_3 {B : Bd} (h : ¬ sp_nm B 0) (h1 : sp_fi (sp1 B) 0 (bE B) = none) (h2 : sp_f2 (sp2 B) (bE B) (bE B) = none) : sp_spare B = (-1, -1, -1) := by unfold sp_spare; rw [if_neg h, h1, h2]
theorem m6_offers {σ0 σ : St} {B : Bd} {a b v : Int32} (hS : isSp σ0 σ B) (hv : (-1 : Int32) < v) : Ok (sy_bd (m1_offer 49 a b v σ) (fun _ σ10 => some ((), σ10))) (fun _ σ' => cSr 49 σ0 σ' ∧ isBe σ' 49 a b v) :=
  ok_bd (m1_offer_sp hS.2.2 a b v) (fun _ σ1 g => by
    have q := g.2
    rw [if_pos hv] at q
    exact ok_some ⟨fun k z => by rw [g.1 k (by omega)]; exact hS.1 k z, q⟩)
theorem cl_spare {σ : St} {T : Td} (hT : okT T) (hC : isCT σ T) (a : Int32) : CL (m6_spare a σ) σ (an_spare T a) T := by
  have hE := (okB_told hT).2.2.1
  unfold m6_spare an_spare
  rw [m6_within_eq, bd_some, b01_0]
  by_cases ca : -1 ≤ a ∧ a ≤ 1
  · rw [if_pos ca, if_pos ca]
    have fin : ∀ σ', clF σ σ' → isCT σ' T → kP σ' T → CL (m6_spare_J26 a σ') σ (if a = -1 then (sp_spare (sp_told T)).2.2 else if a = 0 then (sp_spare (sp_told T)).1 else (sp_spare (sp_told T)).2.1) T := by
      intro σ' h1 h2 h3
      unfold m6_spare_J26
      by_cases c0 : a = -1
      · rw [if_pos c0, if_pos c0]; exact ok_some ⟨h3.2.2.2, h1, h2⟩
      · rw [if_neg c0, if_neg c0]
        by_cases c1 : a = 0
        · rw [if_pos c1, if_pos c1]; exact ok_some ⟨h3.2.1, h1, h2⟩
        · rw [if_neg c1, if_neg c1]; exact ok_some ⟨h3.2.2.1, h1, h2⟩
    rcases hC.2.2.2.2.2.2 with h0 | h1
    · rw [if_pos h0]
      have h10 : σ 5 10 = nI (bE (sp_told T)) := hC.1.2.2.1.2.2.2.2.2.2.1
      have key : Ok (m6_searchSpare σ) (fun _ σ' => cSr 49 σ σ' ∧ isBe σ' 49 (sp_spare (sp_told T)).1 (sp_spare (sp_told T)).2.1 (sp_spare (sp_told T)).2.2) := by
        unfold m6_searchSpare
        refine m6_begin_sp (c := 49) hT hC (fun σ1 f1 b1 e1 => ?_) (by omega)
        refine ok_bd (m6_noneMissed_sp (c := 49) (okB_told hT) (by omega) f1 ⟨bg (sp_told T), b1⟩ 0) (fun y σ2 g => ?_)
        obtain ⟨rfl, g1, g2, g3⟩ := g
        have hS : isSp σ σ2 (sp_told T) := ⟨g1, g2, e1.of g3⟩
        rw [b01_0]
        by_cases c : sp_nm (sp_told T) 0
        · rw [if_pos c, sp_spare_0 c]
          exact m6_offers hS (by decide)
        · rw [if_neg c]
          refine m6_spare_1 (okB_told hT) h10 (fun σ3 u s3 q => ?_) (fun σ3 s3 q => ?_) _ 0 (Nat.zero_add _) sy_FU (by show _ < 1000; omega) rfl σ2 hS
          · rw [sp_spare_1 c q]
            exact m6_offers s3 (by decide)
          · refine m6_spare_3 (okB_told hT) h10 (fun σ4 x s4 w => ?_) (fun σ4 s4 w => ?_) _ 0 (Nat.zero_add _) sy_FU (by show _ < 1000; omega) rfl σ3 s3
            · rw [sp_spare_2 c q w]
              exact m6_offers s4 (by decide)
            · rw [sp_spare_3 c q w]
              exact ok_some ⟨s4.1, s4.2.2⟩
      refine ok_bd key (fun _ σ1 g => ?_)
      exact fin σ1 (g.1.cl (by omega)) (g.1.CT (by omega) hC (fun q => by omega) (fun q => by omega) (fun q => by omega) (fun _ => g.2)) g.2
    · rw [if_neg (by rw [h1.1]; decide)]
      exact fin σ clF.rf hC h1
  · rw [if_neg ca, if_neg ca]
    exact ok_some ⟨rfl, clF.rf, hC⟩
/-! the reference's -/
theorem m7_isSpared_loop {σ : St} {B : Bd} (ho : okB B) (hM : isM σ B) {st : Nat → Int32} (hst : ∀ j, j < bN B → σ 74 j = st j) : ∀ (k i : Nat), i + k = bN B → ∀ n, k < n → ∀ x : Int32, ((x = 1 ∧ ∀ j, j < i → bnp B j < bP B → ¬ st j ≤ 0) ∨ (x = 0 ∧ ¬ ∀ j, j < bN B → bnp B j < bP B → ¬ st j ≤ 0)) → ∃ y : Int32, m7_isSpared_L18 (fun y8 σ9 => sy_zg y8 (some (y8, σ9))) n x (nI i) σ = some (y, σ) ∧ ((y = 1 ∧ ∀ j, j < bN B → bnp B j < bP B → ¬ st j ≤ 0) ∨ (y = 0 ∧ ¬ ∀ j, j < bN B → bnp B j < bP B → ¬ st j ≤ 0)) := by
  have hN := ho.2.1
  have hP := ho.1
  intro k
  induction k with
  | zero =>
    intro i hi n hn x hx
    obtain ⟨n, rfl⟩ : ∃ m, n = m + 1 := ⟨n - 1, by omega⟩
    refine ⟨x, ?_, ?_⟩
    · show m7_isSpared_L18b _ _ _ _ σ = _
      unfold m7_isSpared_L18b
      rw [hM.2.2.1, if_pos (nI_le (by omega) (by omega))]
      rcases hx with ⟨rfl, _⟩ | ⟨rfl, _⟩
      · exact zg_1
      · exact zg_0
    · rcases hx with ⟨h, g⟩ | h
      · exact Or.inl ⟨h, fun j hj => g j (by omega)⟩
      · exact Or.inr h
  | succ k ih =>
    intro i hi n hn x hx
    obtain ⟨n, rfl⟩ : ∃ m, n = m + 1 := ⟨n - 1, by omega⟩
    have hk := fun x => ih (i + 1) (by omega) n (by omega) x
    show ∃ y : Int32, m7_isSpared_L18b _ _ _ _ σ = _ ∧ _
    unfold m7_isSpared_L18b
    rw [hM.2.2.1, if_neg (nI_ge (by omega) (by omega)), nI_1]
    rcases hx with ⟨rfl, g⟩ | ⟨rfl, g⟩
    · rw [if_neg (by decide)]
      have e1 := hst i (by omega)
      have e2 := (hM.2.2.2.1 i (by omega)).2
      have hp := ((ho.2.2.2.2.2.2.1) i (by omega)).2
      simp (disch := omega) only [gd_nI, sy_ix, ix_nI, nI_2, nI_1, e1, e2]
      by_cases c : 0 < st i
      · rw [if_pos c]
        exact hk 1 (Or.inl ⟨rfl, fun j hj hp => by
          by_cases e : j = i
          · rw [e]; exact fun q => by have q1 := i32_le.mp q; have q2 := i32_lt.mp c; omega
          · exact g j (by omega) hp⟩)
      · rw [if_neg c, m7_isPlayer_eq, bd_some, b01_0, hM.1]
        have c' : st i ≤ 0 := i32_le.mpr (by have := mt i32_lt.mpr c; omega)
        by_cases d : bnp B i < bP B
        · rw [if_pos ((nI_iffP (by omega) (by omega)).mpr d)]
          exact hk 0 (Or.inr ⟨rfl, fun q => q i (by omega) d c'⟩)
        · rw [if_neg (fun q => d ((nI_iffP (by omega) (by omega)).mp q))]
          exact hk 1 (Or.inl ⟨rfl, fun j hj hp => by
            by_cases e : j = i
            · rw [e] at hp; exact absurd hp d
            · exact g j (by omega) hp⟩)
    · rw [if_pos rfl]
      exact hk 0 (Or.inr ⟨rfl, g⟩)
theorem isM.g {σ : St} {B : Bd} {v : Int32} (h : isM σ B) : isM (sy_sf σ 61 14 v) (sp_setG B v) := by
  unfold isM
  simp (disch := omega) only [sf_n, sf_sn, sf_ss]
  exact ⟨h.1, h.2.1, h.2.2.1, h.2.2.2.1, h.2.2.2.2.1, h.2.2.2.2.2.1, h.2.2.2.2.2.2.1, rfl, h.2.2.2.2.2.2.2.2⟩
theorem m7_isSpared_sp {σ : St} {B : Bd} (hM : isM σ B) (ho : okB B) (h0 : bg B = 0) (g : Int32) : Ok (m7_isSpared g σ) (fun y σ' => y = b01 (sp_nm B g) ∧ mFr σ σ') := by
  have hN := ho.2.1
  unfold m7_isSpared
  rw [lt_eq]
  have hM1 : isM (sy_sf σ 61 14 g) (sp_setG B g) := hM.g
  refine ok_bd (m7_lives_sp hM1 (okB_g ho)) (fun _ σ1 q => ?_)
  rw [lt_eq]
  have m1 := q.1.isM hM1
  have m2 : isM (sy_sf σ1 61 14 0) (sp_setG B 0) := isM.g (B := sp_setG B g) m1
  have fr : mFr σ (sy_sf σ1 61 14 0) := ⟨fun k z => by rw [sf_n (by omega), q.1.1 k z, sf_n (by omega)], fun j z => by
    by_cases e : j = 14
    · rw [e, sf_ss, hM.2.2.2.2.2.2.2.1, h0]
    · rw [sf_sn e, q.1.2 j z, sf_sn e]⟩
  obtain ⟨y, e, hy⟩ := m7_isSpared_loop (B := sp_setG B 0) (st := rSt (sp_run (sp_setG B g) 24)) (okB_g ho) m2 (fun j hj => by rw [sf_n (by omega)]; exact q.2.2.2.2.2.2.1 j hj (Or.inl (ho.2.2.2.2.2.2.1 j hj).1)) (bN B) 0 (Nat.zero_add _) sy_FU (by show _ < 1000; omega) 1 (Or.inl ⟨rfl, fun j hj => by omega⟩)
  rw [show m7_isSpared_L18 _ sy_FU 1 0 (sy_sf σ1 61 14 0) = _ from e]
  refine ok_some ⟨?_, fr⟩
  have hn := sp_none (B := sp_setG B g) (okB_g ho)
  unfold b01
  rcases hy with ⟨rfl, h⟩ | ⟨rfl, h⟩
  · rw [if_pos (hn.mpr h)]
  · rw [if_neg (fun w => h (hn.mp w))]
abbrev isMp (σ0 σ : St) (B : Bd) : Prop := mFr σ0 σ ∧ isM σ B
theorem isMp.go {σ0 σ σ1 : St} {B : Bd} (h : isMp σ0 σ B) (g : mFr σ σ1) : isMp σ0 σ1 B := ⟨h.1.tr g, g.isM h.2⟩
theorem m7_spare_1 {σ0 : St} {B : Bd} {a : Int32} {Q : Int32 → St → Prop} {E1 : Int32 → Int32 → St → Option (Int32 × St)} {E2 : Int32 → St → Option (Int32 × St)} (ho : okB B) (hg : bg B = 0) (h1 : ∀ σ u, isMp σ0 σ B → sp_fi (sp1 B) 0 (bE B) = some u → Ok (E1 a (nI u) σ) Q) (h2 : ∀ σ, isMp σ0 σ B → sp_fi (sp1 B) 0 (bE B) = none → Ok (E2 a σ) Q) : ∀ (k i : Nat), i + k = bE B → ∀ n, k < n → sp_fi (sp1 B) 0 i = none → ∀ σ, isMp σ0 σ B → Ok (m7_spareBy_L21 E1 E2 n a (nI i) σ) Q := by
  have hE := ho.2.2.1
  intro k
  induction k with
  | zero =>
    intro i hi n hn hz σ hS
    obtain ⟨n, rfl⟩ : ∃ m, n = m + 1 := ⟨n - 1, by omega⟩
    show Ok (m7_spareBy_L21b _ _ _ _ _ σ) _
    unfold m7_spareBy_L21b
    rw [hS.2.2.2.2.2.2.1, if_pos (nI_le (by omega) (by omega))]
    rw [show i = bE B by omega] at hz
    exact h2 σ hS hz
  | succ k ih =>
    intro i hi n hn hz σ hS
    obtain ⟨n, rfl⟩ : ∃ m, n = m + 1 := ⟨n - 1, by omega⟩
    show Ok (m7_spareBy_L21b _ _ _ _ _ σ) _
    unfold m7_spareBy_L21b
    rw [hS.2.2.2.2.2.2.1, if_neg (nI_ge (by omega) (by omega))]
    refine ok_bd (m7_isSpared_sp hS.2 ho hg (1 <<< (nI i &&& 31))) (fun y σ1 g => ?_)
    obtain ⟨rfl, g1⟩ := g
    have hS1 := hS.go g1
    rw [b01_0]
    by_cases c : sp_nm B (1 <<< (nI i &&& 31))
    · rw [if_pos c]
      have c : sp1 B (0 + i) := by rw [Nat.zero_add]; exact c
      have e := sp_fi_up (sp_fi_y hz c) (bE B) (by omega)
      rw [Nat.zero_add] at e
      exact h1 σ1 i hS1 e
    · rw [if_neg c, nI_1]
      have c : ¬ sp1 B (0 + i) := by rw [Nat.zero_add]; exact c
      exact ih (i + 1) (by omega) n (by omega) (sp_fi_n hz c) σ1 hS1
theorem m7_spare_2 {σ0 : St} {B : Bd} {u : Nat} {a : Int32} {Q : Int32 → St → Prop} {E1 : Int32 → Int32 → Int32 → St → Option (Int32 × St)} {E2 : Int32 → Int32 → St → Option (Int32 × St)} (ho : okB B) (hg : bg B = 0) (h1 : ∀ σ b, isMp σ0 σ B → sp_fi (sp2 B u) (u + 1) (bE B - (u + 1)) = some b → Ok (E1 a (nI u) (nI b) σ) Q) (h2 : ∀ σ, isMp σ0 σ B → sp_fi (sp2 B u) (u + 1) (bE B - (u + 1)) = none → Ok (E2 a (nI u) σ) Q) (ha : u < bE B) : ∀ (k i : Nat), i + k = bE B - (u + 1) → ∀ n, k < n → sp_fi (sp2 B u) (u + 1) i = none → ∀ σ, isMp σ0 σ B → Ok (m7_spareBy_L78 E1 E2 n a (nI u) (nI (u + 1 + i)) σ) Q := by
  have hE := ho.2.2.1
  intro k
  induction k with
  | zero =>
    intro i hi n hn hz σ hS
    obtain ⟨n, rfl⟩ : ∃ m, n = m + 1 := ⟨n - 1, by omega⟩
    show Ok (m7_spareBy_L78b _ _ _ _ _ _ σ) _
    unfold m7_spareBy_L78b
    rw [hS.2.2.2.2.2.2.1, if_pos (nI_le (by omega) (by omega))]
    rw [show i = bE B - (u + 1) by omega] at hz
    exact h2 σ hS hz
  | succ k ih =>
    intro i hi n hn hz σ hS
    obtain ⟨n, rfl⟩ : ∃ m, n = m + 1 := ⟨n - 1, by omega⟩
    show Ok (m7_spareBy_L78b _ _ _ _ _ _ σ) _
    unfold m7_spareBy_L78b
    rw [hS.2.2.2.2.2.2.1, if_neg (nI_ge (by omega) (by omega))]
    refine ok_bd (m7_isSpared_sp hS.2 ho hg ((1 <<< (nI u &&& 31)) ||| (1 <<< (nI (u + 1 + i) &&& 31)))) (fun y σ1 g => ?_)
    obtain ⟨rfl, g1⟩ := g
    have hS1 := hS.go g1
    rw [b01_0]
    by_cases c : sp_nm B ((1 <<< (nI u &&& 31)) ||| (1 <<< (nI (u + 1 + i) &&& 31)))
    · rw [if_pos c]
      have c : sp2 B u (u + 1 + i) := c
      exact h1 σ1 _ hS1 (sp_fi_up (sp_fi_y hz c) _ (by omega))
    · rw [if_neg c, nI_1]
      have c : ¬ sp2 B u (u + 1 + i) := c
      exact ih (i + 1) (by omega) n (by omega) (sp_fi_n hz c) σ1 hS1
theorem m7_spare_3 {σ0 : St} {B : Bd} {a : Int32} {Q : Int32 → St → Prop} {E1 : Int32 → Int32 → Int32 → St → Option (Int32 × St)} (ho : okB B) (hg : bg B = 0) (h1 : ∀ σ x, isMp σ0 σ B → sp_f2 (sp2 B) (bE B) (bE B) = some x → Ok (E1 a (nI x.1) (nI x.2) σ) Q) (h2 : ∀ σ, isMp σ0 σ B → sp_f2 (sp2 B) (bE B) (bE B) = none → Q (-1) σ) : ∀ (k u : Nat), u + k = bE B → ∀ n, k < n → sp_f2 (sp2 B) (bE B) u = none → ∀ σ, isMp σ0 σ B → Ok (m7_spareBy_L66 E1 n a (nI u) σ) Q := by
  have hE := ho.2.2.1
  intro k
  induction k with
  | zero =>
    intro i hi n hn hz σ hS
    obtain ⟨n, rfl⟩ : ∃ m, n = m + 1 := ⟨n - 1, by omega⟩
    show Ok (m7_spareBy_L66b _ _ _ _ σ) _
    unfold m7_spareBy_L66b
    rw [hS.2.2.2.2.2.2.1, if_pos (nI_le (by omega) (by omega))]
    rw [show i = bE B by omega] at hz
    exact ok_some (h2 σ hS hz)
  | succ k ih =>
    intro u hi n hn hz σ hS
    obtain ⟨n, rfl⟩ : ∃ m, n = m + 1 := ⟨n - 1, by omega⟩
    show Ok (m7_spareBy_L66b _ _ _ _ σ) _
    unfold m7_spareBy_L66b
    rw [hS.2.2.2.2.2.2.1, if_neg (nI_ge (by omega) (by omega)), lt_eq, nI_1]
    refine m7_spare_2 ho hg (fun σ1 b s1 q => h1 σ1 (u, b) s1 (sp_f2_up (sp_f2_y hz q) _ (by omega))) (fun σ1 s1 q => ?_) (by omega) _ 0 (Nat.zero_add _) sy_FU (by show _ < 1000; omega) rfl σ hS
    rw [nI_1]
    exact ih (u + 1) (by omega) n (by omega) (sp_f2_n hz q) σ1 s1
theorem md_spare {σ : St} {T : Td} (hT : okT T) (hM : isMT σ T) (a : Int32) : MD (m7_spare a σ) σ (an_spare T a) T := by
  have hE := (okB_told hT).2.2.1
  unfold m7_spare an_spare
  refine md_find hT hM (fun σ1 f1 m1 b1 r1 => ?_)
  rw [show m7_in a.toInt64 (-1) 1 σ1 = _ from m7_in32 a (-1) 1 σ1, bd_some, b01_0]
  by_cases ca : -1 ≤ a ∧ a ≤ 1
  · rw [if_pos ca, if_pos ca]
    refine ok_bd (P := fun y σ' => y = (if a = -1 then (sp_spare (sp_told T)).2.2 else if a = 0 then (sp_spare (sp_told T)).1 else (sp_spare (sp_told T)).2.1) ∧ mFr σ1 σ') ?_ (fun y σ2 g => ok_some ⟨g.1, f1.tr g.2.wk.md, g.2.wk.MT m1⟩)
    unfold m7_spareBy
    refine ok_bd (m7_isSpared_sp b1 (okB_told hT) rfl 0) (fun y σ2 g => ?_)
    obtain ⟨rfl, g1⟩ := g
    have hS : isMp σ1 σ2 (sp_told T) := ⟨g1, g1.isM b1⟩
    rw [b01_0]
    by_cases c : sp_nm (sp_told T) 0
    · rw [if_pos c, sp_spare_0 c]
      by_cases c0 : a = -1
      · rw [if_pos c0, if_pos c0]; exact ok_some ⟨rfl, hS.1⟩
      · rw [if_neg c0, if_neg c0]
        refine ok_some ⟨?_, hS.1⟩
        by_cases c1 : a = 0
        · rw [if_pos c1]
        · rw [if_neg c1]
    · rw [if_neg c]
      refine m7_spare_1 (okB_told hT) rfl (fun σ3 u s3 q => ?_) (fun σ3 s3 q => ?_) _ 0 (Nat.zero_add _) sy_FU (by show _ < 1000; omega) rfl σ2 hS
      · rw [sp_spare_1 c q]
        by_cases c0 : a = -1
        · rw [if_pos c0, if_pos c0]; exact ok_some ⟨rfl, s3.1⟩
        · rw [if_neg c0, if_neg c0]
          by_cases c1 : a = 0
          · rw [if_pos c1, if_pos c1]; exact ok_some ⟨rfl, s3.1⟩
          · rw [if_neg c1, if_neg c1]; exact ok_some ⟨rfl, s3.1⟩
      · refine m7_spare_3 (okB_told hT) rfl (fun σ4 x s4 w => ?_) (fun σ4 s4 w => ?_) _ 0 (Nat.zero_add _) sy_FU (by show _ < 1000; omega) rfl σ3 s3
        · rw [sp_spare_2 c q w]
          by_cases c0 : a = -1
          · rw [if_pos c0, if_pos c0]; exact ok_some ⟨rfl, s4.1⟩
          · rw [if_neg c0, if_neg c0]
            by_cases c1 : a = 0
            · rw [if_pos c1, if_pos c1]; exact ok_some ⟨rfl, s4.1⟩
            · rw [if_neg c1, if_neg c1]; exact ok_some ⟨rfl, s4.1⟩
        · rw [sp_spare_3 c q w]
          refine ⟨?_, s4.1⟩
          by_cases c0 : a = -1
          · rw [if_pos c0]
          · rw [if_neg c0]
            by_cases c1 : a = 0
            · rw [if_pos c1]
            · rw [if_neg c1]
  · rw [if_neg ca, if_neg ca]
    exact ok_some ⟨rfl, f1, m1⟩
