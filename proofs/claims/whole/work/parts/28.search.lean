/-! ===== promises 18 and 20: what would be best ===== -/
theorem cp_n {σ : St} {a b k : Nat} {i j n : Int32} (h : k ≠ b) : sy_cp σ a i b j n k = σ k := by unfold sy_cp; exact sy_up_n h
theorem cp_0 {σ : St} {a b k n : Nat} (hn : n < 2 ^ 31) (hk : k < n) : sy_cp σ a 0 b 0 (nI n) b k = σ a k := by
  unfold sy_cp sy_up va_cpy
  rw [if_pos rfl, nI_clamp hn, show (0 : Int32).toNatClampNeg = 0 from rfl, if_pos (by omega)]
  congr 1
  omega
theorem cg_11 {γ : Type} {r : Option γ} : sy_cg 0 0 11 11 11 r = r := if_neg (by decide)
theorem cg_16 {γ : Type} {r : Option γ} : sy_cg 0 0 16 16 16 r = r := if_neg (by decide)
theorem cg_24 {γ : Type} {r : Option γ} : sy_cg 0 0 24 24 24 r = r := if_neg (by decide)
theorem cg_8 {γ : Type} {r : Option γ} : sy_cg 0 0 8 8 8 r = r := if_neg (by decide)
theorem cp_11 {σ : St} {a b k : Nat} (hk : k < 11) : sy_cp σ a 0 b 0 11 b k = σ a k := cp_0 (n := 11) (by omega) hk
theorem cp_16 {σ : St} {a b k : Nat} (hk : k < 16) : sy_cp σ a 0 b 0 16 b k = σ a k := cp_0 (n := 16) (by omega) hk
theorem cp_24 {σ : St} {a b k : Nat} (hk : k < 24) : sy_cp σ a 0 b 0 24 b k = σ a k := cp_0 (n := 24) (by omega) hk
theorem cp_8 {σ : St} {a b k : Nat} (hk : k < 8) : sy_cp σ a 0 b 0 8 b k = σ a k := cp_0 (n := 8) (by omega) hk
theorem m0_become_sp {σ : St} {B : Bd} (hB : isB σ 5 B) (ho : okB B) : Ok (m0_become 15 5 σ) (fun _ σ' => (∀ k, ¬ (15 ≤ k ∧ k ≤ 24) → σ' k = σ k) ∧ isB σ' 15 B) := by
  unfold m0_become
  simp only [cg_11, cg_16, cg_24, cg_8, lt_eq]
  have hP := ho.1
  have hN := ho.2.1
  have hE := ho.2.2.1
  obtain ⟨b0, b1, b2, b3, b4, b5, b6, b7, b8, b9⟩ := hB
  refine ok_some ⟨fun k hk => ?_, ?_, fun k hk => ⟨?_, ?_, ?_, ?_⟩, ?_, fun k hk => ⟨?_, ?_⟩, fun t ht => ?_, ?_, ?_, fun e he => ⟨?_, ?_⟩, ?_, ?_⟩
  · simp (disch := omega) only [sf_n, cp_n]
  · simp (disch := omega) only [Nat.reduceAdd, sf_n, cp_n, sf_ss, sf_sn]; exact b0
  · simp (disch := omega) only [Nat.reduceAdd, sf_n, cp_n, cp_11, sf_ss, sf_sn]; exact (b1 k hk).1
  · simp (disch := omega) only [Nat.reduceAdd, sf_n, cp_n, cp_11, sf_ss, sf_sn]; exact (b1 k hk).2.1
  · simp (disch := omega) only [Nat.reduceAdd, sf_n, cp_n, cp_11, sf_ss, sf_sn]; exact (b1 k hk).2.2.1
  · simp (disch := omega) only [Nat.reduceAdd, sf_n, cp_n, cp_11, sf_ss, sf_sn]; exact (b1 k hk).2.2.2
  · simp (disch := omega) only [Nat.reduceAdd, sf_n, cp_n, sf_ss, sf_sn]; exact b2
  · simp (disch := omega) only [Nat.reduceAdd, sf_n, cp_n, cp_16, sf_ss, sf_sn]; exact (b3 k hk).1
  · simp (disch := omega) only [Nat.reduceAdd, sf_n, cp_n, cp_16, sf_ss, sf_sn]; exact (b3 k hk).2
  · simp (disch := omega) only [Nat.reduceAdd, sf_n, cp_n, cp_24, sf_ss, sf_sn]; exact b4 t ht
  · simp (disch := omega) only [Nat.reduceAdd, sf_n, cp_n, sf_ss, sf_sn]; exact b5
  · simp (disch := omega) only [Nat.reduceAdd, sf_n, cp_n, sf_ss, sf_sn]; exact b6
  · simp (disch := omega) only [Nat.reduceAdd, sf_n, cp_n, cp_8, sf_ss, sf_sn]; exact (b7 e he).1
  · simp (disch := omega) only [Nat.reduceAdd, sf_n, cp_n, cp_8, sf_ss, sf_sn]; exact (b7 e he).2
  · simp (disch := omega) only [Nat.reduceAdd, sf_n, cp_n, sf_ss, sf_sn]; exact b8
  · simp (disch := omega) only [Nat.reduceAdd, sf_n, cp_n, sf_ss, sf_sn]; exact b9
def isBe (σ : St) (c : Nat) (x y z : Int32) : Prop := σ c 0 = 1 ∧ σ c 1 = x ∧ σ c 2 = y ∧ σ c 3 = z
theorem isBe.of {a b : St} {c : Nat} {x y z : Int32} (h : b c = a c) (g : isBe a c x y z) : isBe b c x y z := by
  unfold isBe
  rw [h]; exact g
theorem m1_begin_sp {σ : St} {c : Nat} : Ok (m1_begin c σ) (fun _ σ' => (∀ k, k ≠ c → σ' k = σ k) ∧ isBe σ' c (-1) (-1) (-1)) := by
  unfold m1_begin
  rw [zg_1]
  simp only [lt_eq]
  refine ok_some ⟨fun k hk => ?_, ?_, ?_, ?_, ?_⟩
  · simp (disch := omega) only [sf_n]
  · simp (disch := omega) only [sf_ss, sf_sn]
  · simp (disch := omega) only [sf_ss, sf_sn]
  · simp (disch := omega) only [sf_ss, sf_sn]
  · simp (disch := omega) only [sf_ss]
theorem m1_offer_sp {σ : St} {c : Nat} {x y z : Int32} (h : isBe σ c x y z) (a b v : Int32) : Ok (m1_offer c a b v σ) (fun _ σ' => (∀ k, k ≠ c → σ' k = σ k) ∧ (if z < v then isBe σ' c a b v else isBe σ' c x y z)) := by
  unfold m1_offer
  rw [h.2.2.2]
  by_cases q : v ≤ z
  · rw [if_pos q]
    refine ok_some ⟨fun _ _ => rfl, ?_⟩
    rw [if_neg (fun w => by have q1 := i32_le.mp q; have q2 := i32_lt.mp w; omega)]
    exact h
  · rw [if_neg q]
    simp only [lt_eq]
    refine ok_some ⟨fun k hk => ?_, ?_⟩
    · simp (disch := omega) only [sf_n]
    · rw [if_pos (i32_lt.mpr (by have := mt i32_le.mpr q; omega))]
      refine ⟨?_, ?_, ?_, ?_⟩
      · simp (disch := omega) only [sf_ss, sf_sn]; exact h.1
      · simp (disch := omega) only [sf_ss, sf_sn]
      · simp (disch := omega) only [sf_ss, sf_sn]
      · simp (disch := omega) only [sf_ss]
theorem m6_tried_sp {σ : St} {B : Bd} (hB : isB σ 15 B) (ho : okB B) : Ok (m6_triedSounds σ) (fun r σ' => r = sp_sd B ∧ cFr 34 σ σ') := by
  unfold m6_triedSounds
  exact ok_bd (m3_play_sp (by omega) hB ho) (fun _ σ1 g => ok_some ⟨g.2.2.2.2.2.1, g.1⟩)
def cSr (c : Nat) (σ0 σ : St) : Prop := ∀ k, ¬ ((15 ≤ k ∧ k ≤ 24) ∨ (34 ≤ k ∧ k ≤ 42) ∨ k = c) → σ k = σ0 k
abbrev kF (σ : St) (T : Td) : Prop := σ 46 0 = 1 ∧ σ 46 1 = (sp_fill T).1 ∧ σ 46 3 = (sp_fill T).2
abbrev kS (σ : St) (T : Td) : Prop := σ 47 0 = 1 ∧ σ 47 1 = (sp_swap T).1 ∧ σ 47 2 = (sp_swap T).2.1 ∧ σ 47 3 = (sp_swap T).2.2
abbrev kH (σ : St) (T : Td) : Prop := σ 48 0 = 1 ∧ σ 48 1 = (sp_hold T).1 ∧ σ 48 3 = (sp_hold T).2
abbrev kP (σ : St) (T : Td) : Prop := σ 49 0 = 1 ∧ σ 49 1 = (sp_spare (sp_told T)).1 ∧ σ 49 2 = (sp_spare (sp_told T)).2.1 ∧ σ 49 3 = (sp_spare (sp_told T)).2.2
theorem cSr.CT {c : Nat} {a b : St} {T : Td} (hc : 46 ≤ c ∧ c ≤ 49) (h : cSr c a b) (g : isCT a T) (h1 : c = 46 → kF b T) (h2 : c = 47 → kS b T) (h3 : c = 48 → kH b T) (h4 : c = 49 → kP b T) : isCT b T := by
  refine ⟨g.1.of (fun k q => h k (by omega)) (by rw [h 0 (by omega)]), ?_⟩
  obtain ⟨g1, g2, g3, g4, g5, g6⟩ := g.2
  refine ⟨?_, ?_, ?_, ?_, ?_, ?_⟩
  · rw [h 0 (by omega)]
    rcases g1 with q | ⟨q1, q2⟩
    · exact Or.inl q
    · exact Or.inr ⟨q1, q2.of (fun k p q => h k (by omega))⟩
  · rw [h 0 (by omega), h 50 (by omega)]; exact g2
  · by_cases e : c = 46
    · exact Or.inr (h1 e)
    · rw [h 46 (by omega)]; exact g3
  · by_cases e : c = 47
    · exact Or.inr (h2 e)
    · rw [h 47 (by omega)]; exact g4
  · by_cases e : c = 48
    · exact Or.inr (h3 e)
    · rw [h 48 (by omega)]; exact g5
  · by_cases e : c = 49
    · exact Or.inr (h4 e)
    · rw [h 49 (by omega)]; exact g6
theorem cSr.cl {c : Nat} {a b : St} (hc : 46 ≤ c ∧ c ≤ 49) (h : cSr c a b) : clF a b := fun k q => h k (by omega)
/-- what a search begins with -/
theorem m6_begin_sp {σ : St} {T : Td} {c : Nat} {Q : Unit → St → Prop} {f : St → Option (Unit × St)} (hT : okT T) (hC : isCT σ T) (h : ∀ σ1, cSr c σ σ1 → isB σ1 15 (sp_told T) → isBe σ1 c (-1) (-1) (-1) → Ok (f σ1) Q) (hc : 46 ≤ c ∧ c ≤ 49) : Ok (sy_bd (m0_become 15 5 σ) (fun _ σ1 => sy_bd (m1_begin c σ1) (fun _ σ2 => f σ2))) Q :=
  ok_bd (m0_become_sp hC.1.2.2.1 (okB_told hT)) (fun _ σ1 g => ok_bd m1_begin_sp (fun _ σ2 q => h σ2 (fun k z => by rw [q.1 k (by omega), g.1 k (by omega)]) (g.2.of (fun k a b => q.1 k (by omega))) q.2))
theorem m6_fill_loop {σ0 : St} {B : Bd} (ho : okB B) : ∀ (k i : Nat), i + k = 99 → ∀ n, k < n → ∀ σ, cSr 46 σ0 σ → (∃ x, isB σ 15 (sp_setBag B x)) → isBe σ 46 (sp_bst (fun v => sp_sd (sp_setBag B (nI v))) 1 i).1 (-1) (sp_bst (fun v => sp_sd (sp_setBag B (nI v))) 1 i).2 → Ok (m6_searchFill_L20 (fun σ8 => some ((), σ8)) n (nI (1 + i)) σ) (fun _ σ' => cSr 46 σ0 σ' ∧ isBe σ' 46 (sp_bst (fun v => sp_sd (sp_setBag B (nI v))) 1 99).1 (-1) (sp_bst (fun v => sp_sd (sp_setBag B (nI v))) 1 99).2) := by
  intro k
  induction k with
  | zero =>
    intro i hi n hn σ hF hB hE
    obtain ⟨n, rfl⟩ : ∃ m, n = m + 1 := ⟨n - 1, by omega⟩
    show Ok (m6_searchFill_L20b _ _ _ σ) _
    unfold m6_searchFill_L20b
    rw [if_pos (show (99 : Int32) < nI (1 + i) from nI_lt (a := 99) (by omega) (by omega))]
    rw [show i = 99 by omega] at hE
    exact ok_some ⟨hF, hE⟩
  | succ k ih =>
    intro i hi n hn σ hF hB hE
    obtain ⟨n, rfl⟩ : ∃ m, n = m + 1 := ⟨n - 1, by omega⟩
    show Ok (m6_searchFill_L20b _ _ _ σ) _
    unfold m6_searchFill_L20b
    rw [if_neg (show ¬ (99 : Int32) < nI (1 + i) from nI_nlt (a := 99) (by omega) (by omega)), lt_eq]
    obtain ⟨x, hB⟩ := hB
    have hB1 : isB (sy_sf σ 15 9 (nI (1 + i))) 15 (sp_setBag B (nI (1 + i))) := isB.bag (B := sp_setBag B x) (fun k a b => sf_n (by omega)) (fun j hj => sf_sn hj) (sf_ss _ _ _ _) hB
    refine ok_bd (m6_tried_sp hB1 (okB_bag ho)) (fun r σ1 g => ?_)
    obtain ⟨rfl, g1⟩ := g
    have hE1 := hE.of (b := σ1) (by rw [g1 46 (by omega), sf_n (by omega)])
    refine ok_bd (m1_offer_sp hE1 _ _ _) (fun _ σ2 q => ?_)
    rw [nI_1, show 1 + i + 1 = 1 + (i + 1) by omega]
    refine ih (i + 1) (by omega) n (by omega) σ2 (fun k z => by rw [q.1 k (by omega), g1 k (by omega), sf_n (by omega)]; exact hF k z) ⟨_, (cFr.kB (by omega) g1 hB1).of (fun k a b => q.1 k (by omega))⟩ ?_
    have q2 := q.2
    rw [show sp_bst (fun v => sp_sd (sp_setBag B (nI v))) 1 (i + 1) = if (sp_bst (fun v => sp_sd (sp_setBag B (nI v))) 1 i).2 < sp_sd (sp_setBag B (nI (1 + i))) then (nI (1 + i), sp_sd (sp_setBag B (nI (1 + i)))) else sp_bst (fun v => sp_sd (sp_setBag B (nI v))) 1 i from rfl]
    by_cases z : (sp_bst (fun v => sp_sd (sp_setBag B (nI v))) 1 i).2 < sp_sd (sp_setBag B (nI (1 + i)))
    · rw [if_pos z] at q2 ⊢; exact q2
    · rw [if_neg z] at q2 ⊢; exact q2
def an_fill (T : Td) (a : Int32) : Int32 := if 0 ≤ a ∧ a ≤ 1 then (if a = 0 then (sp_fill T).1 else (sp_fill T).2) else -2
theorem cl_fill {σ : St} {T : Td} (hT : okT T) (hC : isCT σ T) (a : Int32) : CL (m6_fill a σ) σ (an_fill T a) T := by
  unfold m6_fill an_fill
  rw [m6_within_eq, bd_some, b01_0]
  by_cases ca : 0 ≤ a ∧ a ≤ 1
  · rw [if_pos ca, if_pos ca]
    have fin : ∀ σ', clF σ σ' → isCT σ' T → kF σ' T → CL (if a = 0 then (some (σ' 46 1, σ')) else (some (σ' 46 3, σ'))) σ (if a = 0 then (sp_fill T).1 else (sp_fill T).2) T := by
      intro σ' h1 h2 h3
      by_cases c0 : a = 0
      · rw [if_pos c0, if_pos c0]; exact ok_some ⟨h3.2.1, h1, h2⟩
      · rw [if_neg c0, if_neg c0]; exact ok_some ⟨h3.2.2, h1, h2⟩
    rcases hC.2.2.2.1 with h0 | h1
    · rw [if_pos h0]
      have key : Ok (m6_searchFill σ) (fun _ σ' => cSr 46 σ σ' ∧ isBe σ' 46 (sp_fill T).1 (-1) (sp_fill T).2) := by
        unfold m6_searchFill
        refine m6_begin_sp (c := 46) hT hC (fun σ1 f1 b1 e1 => ?_) (by omega)
        exact m6_fill_loop (okB_told hT) 99 0 (by omega) sy_FU (by show _ < 1000; omega) σ1 f1 ⟨bbag (sp_told T), b1⟩ e1
      refine ok_bd key (fun _ σ1 g => ?_)
      have k1 : kF σ1 T := ⟨g.2.1, g.2.2.1, g.2.2.2.2⟩
      exact fin σ1 (g.1.cl (by omega)) (g.1.CT (by omega) hC (fun _ => k1) (fun q => by omega) (fun q => by omega) (fun q => by omega)) k1
    · rw [if_neg (by rw [h1.1]; decide)]
      exact fin σ clF.rf hC h1
  · rw [if_neg ca, if_neg ca]
    exact ok_some ⟨rfl, clF.rf, hC⟩
/-! the reference's -/
def mS (J : Nat) (σ0 σ : St) : Prop := (∀ k, ¬ (k = 61 ∨ (71 ≤ k ∧ k ≤ 77)) → σ k = σ0 k) ∧ ∀ j, ¬ (16 ≤ j ∧ j ≤ 19) → j ≠ J → σ 61 j = σ0 61 j
theorem m7_try_sp {α : Type} {σ : St} {B : Bd} {Q : α → St → Prop} {f : Int32 → St → Option (α × St)} (hM : isM σ B) (ho : okB B) (h : ∀ σ1, mFr σ σ1 → isM σ1 B → mRun σ1 B → Ok (f (sp_sd B) σ1) Q) : Ok (sy_bd (m7_lives σ) (fun _ σ8 => sy_bd (m7_soundNow σ8) f)) Q :=
  ok_bd (m7_lives_sp hM ho) (fun _ σ1 g => by
    have m1 := g.1.isM hM
    rw [m7_soundNow_eq m1 ho g.2, bd_some]
    exact h σ1 g.1 m1 g.2)
theorem isM.bag {σ : St} {B : Bd} {v : Int32} (h : isM σ B) : isM (sy_sf σ 61 11 v) (sp_setBag B v) := by
  unfold isM
  simp (disch := omega) only [sf_n, sf_sn, sf_ss]
  exact ⟨h.1, h.2.1, h.2.2.1, h.2.2.2.1, rfl, h.2.2.2.2.2.1, h.2.2.2.2.2.2.1, h.2.2.2.2.2.2.2.1, h.2.2.2.2.2.2.2.2⟩
theorem isM.od {σ : St} {B : Bd} {v : Int32} (h : isM σ B) : isM (sy_sf σ 61 15 v) (sp_setOd B v) := by
  unfold isM
  simp (disch := omega) only [sf_n, sf_sn, sf_ss]
  exact ⟨h.1, h.2.1, h.2.2.1, h.2.2.2.1, h.2.2.2.2.1, h.2.2.2.2.2.1, h.2.2.2.2.2.2.1, h.2.2.2.2.2.2.2.1, rfl⟩
theorem grt {x y : Int32} (σ : St) : (y < x → m7_greater x y σ = some (x, σ)) ∧ (x ≤ y → m7_greater x y σ = some (y, σ)) := by
  rw [m7_greater_eq]
  exact ⟨fun h => by rw [if_pos h], fun h => by rw [if_neg (fun w => by have q1 := i32_le.mp h; have q2 := i32_lt.mp w; omega)]⟩
theorem m7_fill_loop {σ0 : St} {B : Bd} {a v : Int32} {Q : Int32 → St → Prop} {E : Int32 → Int32 → Int32 → Int32 → St → Option (Int32 × St)} (ho : okB B) (hE : ∀ σ, mS 11 σ0 σ → Ok (E a v (sp_bst (fun v => sp_sd (sp_setBag B (nI v))) 1 99).1 (sp_bst (fun v => sp_sd (sp_setBag B (nI v))) 1 99).2 σ) Q) : ∀ (k i : Nat), i + k = 99 → ∀ n, k < n → ∀ σ, mS 11 σ0 σ → (∃ x, isM σ (sp_setBag B x)) → Ok (m7_fillBy_L13 E n a v (sp_bst (fun v => sp_sd (sp_setBag B (nI v))) 1 i).1 (sp_bst (fun v => sp_sd (sp_setBag B (nI v))) 1 i).2 (nI (1 + i)) σ) Q := by
  intro k
  induction k with
  | zero =>
    intro i hi n hn σ hF hB
    obtain ⟨n, rfl⟩ : ∃ m, n = m + 1 := ⟨n - 1, by omega⟩
    show Ok (m7_fillBy_L13b _ _ _ _ _ _ _ σ) _
    unfold m7_fillBy_L13b
    rw [if_pos (show (100 : Int32) ≤ nI (1 + i) from nI_le (a := 100) (by omega) (by omega)), show i = 99 by omega]
    exact hE σ hF
  | succ k ih =>
    intro i hi n hn σ hF hB
    obtain ⟨n, rfl⟩ : ∃ m, n = m + 1 := ⟨n - 1, by omega⟩
    show Ok (m7_fillBy_L13b _ _ _ _ _ _ _ σ) _
    unfold m7_fillBy_L13b
    rw [if_neg (show ¬ (100 : Int32) ≤ nI (1 + i) from nI_ge (b := 100) (by omega) (by omega)), lt_eq]
    obtain ⟨x, hB⟩ := hB
    have hB1 : isM (sy_sf σ 61 11 (nI (1 + i))) (sp_setBag B (nI (1 + i))) := hB.bag
    refine m7_try_sp hB1 (okB_bag ho) (fun σ1 g m1 r1 => ?_)
    have hF1 : mS 11 σ0 σ1 := ⟨fun k q => by rw [g.1 k q, sf_n (by omega)]; exact hF.1 k q, fun j q w => by rw [g.2 j q, sf_sn w]; exact hF.2 j q w⟩
    have hk := ih (i + 1) (by omega) n (by omega) σ1 hF1 ⟨_, m1⟩
    rw [show sp_bst (fun v => sp_sd (sp_setBag B (nI v))) 1 (i + 1) = if (sp_bst (fun v => sp_sd (sp_setBag B (nI v))) 1 i).2 < sp_sd (sp_setBag B (nI (1 + i))) then (nI (1 + i), sp_sd (sp_setBag B (nI (1 + i)))) else sp_bst (fun v => sp_sd (sp_setBag B (nI v))) 1 i from rfl] at hk
    rw [nI_1, show 1 + i + 1 = 1 + (i + 1) by omega]
    by_cases z : sp_sd (sp_setBag B (nI (1 + i))) ≤ (sp_bst (fun v => sp_sd (sp_setBag B (nI v))) 1 i).2
    · rw [if_pos z, (grt σ1).2 z, bd_some]
      rw [if_neg (fun w => by have q1 := i32_le.mp z; have q2 := i32_lt.mp w; omega)] at hk
      exact hk
    · have z' : (sp_bst (fun v => sp_sd (sp_setBag B (nI v))) 1 i).2 < sp_sd (sp_setBag B (nI (1 + i))) := i32_lt.mpr (by have := mt i32_le.mpr z; omega)
      rw [if_neg z, (grt σ1).1 z', bd_some]
      rw [if_pos z'] at hk
      exact hk
theorem md_fill {σ : St} {T : Td} (hT : okT T) (hM : isMT σ T) (a : Int32) : MD (m7_fill a σ) σ (an_fill T a) T := by
  unfold m7_fill an_fill
  refine md_find hT hM (fun σ1 f1 m1 b1 r1 => ?_)
  rw [m7_isTwo_eq, bd_some, b01_0]
  by_cases ca : 0 ≤ a ∧ a ≤ 1
  · rw [if_pos ca, if_pos ca]
    unfold m7_fillBy
    rw [lt_eq]
    refine ok_bd (P := fun y σ' => y = (if a = 0 then (sp_fill T).1 else (sp_fill T).2) ∧ mFr σ1 σ') ?_ (fun y σ2 g => ok_some ⟨g.1, f1.tr g.2.wk.md, g.2.wk.MT m1⟩)
    refine m7_fill_loop (okB_told hT) (fun σ2 h2 => ?_) 99 0 (by omega) sy_FU (by show _ < 1000; omega) σ1 ⟨fun _ _ => rfl, fun _ _ _ => rfl⟩ ⟨bbag (sp_told T), b1⟩
    rw [lt_eq]
    have h3 : mFr σ1 (sy_sf σ2 61 11 (σ1 61 11)) := ⟨fun k q => by rw [sf_n (by omega)]; exact h2.1 k q, fun j q => by
      by_cases e : j = 11
      · rw [e, sf_ss]
      · rw [sf_sn e]; exact h2.2 j q e⟩
    by_cases c0 : a = 0
    · rw [if_pos c0, if_pos c0]; exact ok_some ⟨rfl, h3⟩
    · rw [if_neg c0, if_neg c0]; exact ok_some ⟨rfl, h3⟩
  · rw [if_neg ca, if_neg ca]
    exact ok_some ⟨rfl, f1, m1⟩
theorem isB.od {x y : St} {b : Nat} {B : Bd} {v : Int32} (h : ∀ k, b < k → k ≤ b + 9 → y k = x k) (h5 : ∀ j, j ≠ 14 → y b j = x b j) (h9 : y b 14 = v) (g : isB x b B) : isB y b (sp_setOd B v) := by
  obtain ⟨b0, b1, b2, b3, b4, b5, b6, b7, b8, b9⟩ := g
  unfold isB
  rw [h (b + 1) (by omega) (by omega), h (b + 2) (by omega) (by omega), h (b + 3) (by omega) (by omega), h (b + 4) (by omega) (by omega), h (b + 5) (by omega) (by omega), h (b + 6) (by omega) (by omega), h (b + 7) (by omega) (by omega), h (b + 8) (by omega) (by omega), h (b + 9) (by omega) (by omega), h5 0 (by omega), h5 5 (by omega), h5 10 (by omega), h5 13 (by omega), h5 9 (by omega), h9]
  exact ⟨b0, b1, b2, b3, b4, b5, b6, b7, b8, rfl⟩
theorem m6_hold_loop {σ0 : St} {B : Bd} (ho : okB B) : ∀ (k i : Nat), i + k = 24 → ∀ n, k < n → ∀ σ, cSr 48 σ0 σ → (∃ x, isB σ 15 (sp_setOd B x)) → isBe σ 48 (sp_bst (fun v => sp_sd (sp_setOd B (nI v))) 0 i).1 (-1) (sp_bst (fun v => sp_sd (sp_setOd B (nI v))) 0 i).2 → Ok (m6_searchHold_L20 (fun σ8 => some ((), σ8)) n (nI (0 + i)) σ) (fun _ σ' => cSr 48 σ0 σ' ∧ isBe σ' 48 (sp_bst (fun v => sp_sd (sp_setOd B (nI v))) 0 24).1 (-1) (sp_bst (fun v => sp_sd (sp_setOd B (nI v))) 0 24).2) := by
  intro k
  induction k with
  | zero =>
    intro i hi n hn σ hF hB hE
    obtain ⟨n, rfl⟩ : ∃ m, n = m + 1 := ⟨n - 1, by omega⟩
    show Ok (m6_searchHold_L20b _ _ _ σ) _
    unfold m6_searchHold_L20b
    rw [if_pos (show (24 : Int32) ≤ nI (0 + i) from nI_le (a := 24) (by omega) (by omega))]
    rw [show i = 24 by omega] at hE
    exact ok_some ⟨hF, hE⟩
  | succ k ih =>
    intro i hi n hn σ hF hB hE
    obtain ⟨n, rfl⟩ : ∃ m, n = m + 1 := ⟨n - 1, by omega⟩
    show Ok (m6_searchHold_L20b _ _ _ σ) _
    unfold m6_searchHold_L20b
    rw [if_neg (show ¬ (24 : Int32) ≤ nI (0 + i) from nI_ge (b := 24) (by omega) (by omega)), lt_eq]
    obtain ⟨x, hB⟩ := hB
    have hB1 : isB (sy_sf σ 15 14 (nI (0 + i))) 15 (sp_setOd B (nI (0 + i))) := isB.od (B := sp_setOd B x) (fun k a b => sf_n (by omega)) (fun j hj => sf_sn hj) (sf_ss _ _ _ _) hB
    refine ok_bd (m6_tried_sp hB1 (okB_od (by omega) ho)) (fun r σ1 g => ?_)
    obtain ⟨rfl, g1⟩ := g
    have hE1 := hE.of (b := σ1) (by rw [g1 48 (by omega), sf_n (by omega)])
    refine ok_bd (m1_offer_sp hE1 _ _ _) (fun _ σ2 q => ?_)
    rw [nI_1, show 0 + i + 1 = 0 + (i + 1) by omega]
    refine ih (i + 1) (by omega) n (by omega) σ2 (fun k z => by rw [q.1 k (by omega), g1 k (by omega), sf_n (by omega)]; exact hF k z) ⟨_, (cFr.kB (by omega) g1 hB1).of (fun k a b => q.1 k (by omega))⟩ ?_
    have q2 := q.2
    rw [show sp_bst (fun v => sp_sd (sp_setOd B (nI v))) 0 (i + 1) = if (sp_bst (fun v => sp_sd (sp_setOd B (nI v))) 0 i).2 < sp_sd (sp_setOd B (nI (0 + i))) then (nI (0 + i), sp_sd (sp_setOd B (nI (0 + i)))) else sp_bst (fun v => sp_sd (sp_setOd B (nI v))) 0 i from rfl]
    by_cases z : (sp_bst (fun v => sp_sd (sp_setOd B (nI v))) 0 i).2 < sp_sd (sp_setOd B (nI (0 + i)))
    · rw [if_pos z] at q2 ⊢; exact q2
    · rw [if_neg z] at q2 ⊢; exact q2
def an_hold (T : Td) (a : Int32) : Int32 := if 0 ≤ a ∧ a ≤ 1 then (if a = 0 then (sp_hold T).1 else (sp_hold T).2) else -2
theorem cl_hold {σ : St} {T : Td} (hT : okT T) (hC : isCT σ T) (a : Int32) : CL (m6_hold a σ) σ (an_hold T a) T := by
  unfold m6_hold an_hold
  rw [m6_within_eq, bd_some, b01_0]
  by_cases ca : 0 ≤ a ∧ a ≤ 1
  · rw [if_pos ca, if_pos ca]
    have fin : ∀ σ', clF σ σ' → isCT σ' T → kH σ' T → CL (if a = 0 then (some (σ' 48 1, σ')) else (some (σ' 48 3, σ'))) σ (if a = 0 then (sp_hold T).1 else (sp_hold T).2) T := by
      intro σ' h1 h2 h3
      by_cases c0 : a = 0
      · rw [if_pos c0, if_pos c0]; exact ok_some ⟨h3.2.1, h1, h2⟩
      · rw [if_neg c0, if_neg c0]; exact ok_some ⟨h3.2.2, h1, h2⟩
    rcases hC.2.2.2.2.2.1 with h0 | h1
    · rw [if_pos h0]
      have key : Ok (m6_searchHold σ) (fun _ σ' => cSr 48 σ σ' ∧ isBe σ' 48 (sp_hold T).1 (-1) (sp_hold T).2) := by
        unfold m6_searchHold
        refine m6_begin_sp (c := 48) hT hC (fun σ1 f1 b1 e1 => ?_) (by omega)
        exact m6_hold_loop (okB_told hT) 24 0 (by omega) sy_FU (by show _ < 1000; omega) σ1 f1 ⟨bod (sp_told T), b1⟩ e1
      refine ok_bd key (fun _ σ1 g => ?_)
      have k1 : kH σ1 T := ⟨g.2.1, g.2.2.1, g.2.2.2.2⟩
      exact fin σ1 (g.1.cl (by omega)) (g.1.CT (by omega) hC (fun q => by omega) (fun q => by omega) (fun _ => k1) (fun q => by omega)) k1
    · rw [if_neg (by rw [h1.1]; decide)]
      exact fin σ clF.rf hC h1
  · rw [if_neg ca, if_neg ca]
    exact ok_some ⟨rfl, clF.rf, hC⟩
theorem m7_hold_loop {σ0 : St} {B : Bd} {a : Int32} {Q : Int32 → St → Prop} {E : Int32 → Int32 → Int32 → St → Option (Int32 × St)} (ho : okB B) (hE : ∀ σ, mS 15 σ0 σ → Ok (E a (sp_bst (fun v => sp_sd (sp_setOd B (nI v))) 0 24).1 (sp_bst (fun v => sp_sd (sp_setOd B (nI v))) 0 24).2 σ) Q) : ∀ (k i : Nat), i + k = 24 → ∀ n, k < n → ∀ σ, mS 15 σ0 σ → (∃ x, isM σ (sp_setOd B x)) → Ok (m7_holdBy_L7 E n a (sp_bst (fun v => sp_sd (sp_setOd B (nI v))) 0 i).1 (sp_bst (fun v => sp_sd (sp_setOd B (nI v))) 0 i).2 (nI (0 + i)) σ) Q := by
  intro k
  induction k with
  | zero =>
    intro i hi n hn σ hF hB
    obtain ⟨n, rfl⟩ : ∃ m, n = m + 1 := ⟨n - 1, by omega⟩
    show Ok (m7_holdBy_L7b _ _ _ _ _ _ σ) _
    unfold m7_holdBy_L7b
    rw [if_pos (show (24 : Int32) ≤ nI (0 + i) from nI_le (a := 24) (by omega) (by omega)), show i = 24 by omega]
    exact hE σ hF
  | succ k ih =>
    intro i hi n hn σ hF hB
    obtain ⟨n, rfl⟩ : ∃ m, n = m + 1 := ⟨n - 1, by omega⟩
    show Ok (m7_holdBy_L7b _ _ _ _ _ _ σ) _
    unfold m7_holdBy_L7b
    rw [if_neg (show ¬ (24 : Int32) ≤ nI (0 + i) from nI_ge (b := 24) (by omega) (by omega)), lt_eq]
    obtain ⟨x, hB⟩ := hB
    have hB1 : isM (sy_sf σ 61 15 (nI (0 + i))) (sp_setOd B (nI (0 + i))) := hB.od
    refine m7_try_sp hB1 (okB_od (by omega) ho) (fun σ1 g m1 r1 => ?_)
    have hF1 : mS 15 σ0 σ1 := ⟨fun k q => by rw [g.1 k q, sf_n (by omega)]; exact hF.1 k q, fun j q w => by rw [g.2 j q, sf_sn w]; exact hF.2 j q w⟩
    have hk := ih (i + 1) (by omega) n (by omega) σ1 hF1 ⟨_, m1⟩
    rw [show sp_bst (fun v => sp_sd (sp_setOd B (nI v))) 0 (i + 1) = if (sp_bst (fun v => sp_sd (sp_setOd B (nI v))) 0 i).2 < sp_sd (sp_setOd B (nI (0 + i))) then (nI (0 + i), sp_sd (sp_setOd B (nI (0 + i)))) else sp_bst (fun v => sp_sd (sp_setOd B (nI v))) 0 i from rfl] at hk
    rw [nI_1, show 0 + i + 1 = 0 + (i + 1) by omega]
    by_cases z : sp_sd (sp_setOd B (nI (0 + i))) ≤ (sp_bst (fun v => sp_sd (sp_setOd B (nI v))) 0 i).2
    · rw [if_pos z, (grt σ1).2 z, bd_some]
      rw [if_neg (fun w => by have q1 := i32_le.mp z; have q2 := i32_lt.mp w; omega)] at hk
      exact hk
    · have z' : (sp_bst (fun v => sp_sd (sp_setOd B (nI v))) 0 i).2 < sp_sd (sp_setOd B (nI (0 + i))) := i32_lt.mpr (by have := mt i32_le.mpr z; omega)
      rw [if_neg z, (grt σ1).1 z', bd_some]
      rw [if_pos z'] at hk
      exact hk
theorem md_hold {σ : St} {T : Td} (hT : okT T) (hM : isMT σ T) (a : Int32) : MD (m7_hold a σ) σ (an_hold T a) T := by
  unfold m7_hold an_hold
  refine md_find hT hM (fun σ1 f1 m1 b1 r1 => ?_)
  rw [m7_isTwo_eq, bd_some, b01_0]
  by_cases ca : 0 ≤ a ∧ a ≤ 1
  · rw [if_pos ca, if_pos ca]
    unfold m7_holdBy
    refine ok_bd (P := fun y σ' => y = (if a = 0 then (sp_hold T).1 else (sp_hold T).2) ∧ mFr σ1 σ') ?_ (fun y σ2 g => ok_some ⟨g.1, f1.tr g.2.wk.md, g.2.wk.MT m1⟩)
    refine m7_hold_loop (okB_told hT) (fun σ2 h2 => ?_) 24 0 (by omega) sy_FU (by show _ < 1000; omega) σ1 ⟨fun _ _ => rfl, fun _ _ _ => rfl⟩ ⟨bod (sp_told T), b1⟩
    rw [lt_eq]
    have h3 : mFr σ1 (sy_sf σ2 61 15 (-1)) := ⟨fun k q => by rw [sf_n (by omega)]; exact h2.1 k q, fun j q => by
      by_cases e : j = 15
      · rw [e, sf_ss]; exact m1.2.1.2.2.2.2.symm
      · rw [sf_sn e]; exact h2.2 j q e⟩
    by_cases c0 : a = 0
    · rw [if_pos c0, if_pos c0]; exact ok_some ⟨rfl, h3⟩
    · rw [if_neg c0, if_neg c0]; exact ok_some ⟨rfl, h3⟩
  · rw [if_neg ca, if_neg ca]
    exact ok_some ⟨rfl, f1, m1⟩
