/-! ===== promise 26: what a player might have been ===== -/
theorem upd_upd (f : Nat → Int32) (k : Nat) (x y : Int32) : upd (upd f k x) k y = upd f k y := by
  funext j
  unfold upd
  by_cases e : j = k
  · rw [if_pos e, if_pos e]
  · rw [if_neg e, if_neg e, if_neg e]
theorem le_le (B : Bd) (k : Nat) (x y : Int32) : sp_setLe (sp_setLe B k x) k y = sp_setLe B k y := by
  show (bP B, bso B, upd (upd (ble B) k x) k y, bsi B, bwh B, bN B, bnb B, bnp B, bbag B, bE B, bkd B, bbt B, bg B, bod B) = _
  rw [upd_upd]; rfl
theorem so_so (B : Bd) (k : Nat) (x y : Int32) : sp_setSo (sp_setSo B k x) k y = sp_setSo B k y := by
  show (bP B, upd (upd (bso B) k x) k y, ble B, bsi B, bwh B, bN B, bnb B, bnp B, bbag B, bE B, bkd B, bbt B, bg B, bod B) = _
  rw [upd_upd]; rfl
theorem isB.le {σ : St} {C : Bd} {k : Nat} {v : Int32} (g : isB σ 15 C) : isB (sy_sf σ 17 k v) 15 (sp_setLe C k v) := by
  obtain ⟨b0, b1, b2, b3, b4, b5, b6, b7, b8, b9⟩ := g
  unfold isB
  simp (disch := omega) only [Nat.reduceAdd, sf_n]
  refine ⟨b0, fun j hj => ⟨(b1 j hj).1, ?_, (b1 j hj).2.2⟩, b2, b3, b4, b5, b6, b7, b8, b9⟩
  show _ = upd (ble C) k v j
  unfold upd
  rw [sf_at]
  by_cases e : j = k
  · rw [if_pos ⟨rfl, e⟩, if_pos e]
  · rw [if_neg (fun q => e q.2), if_neg e]; exact (b1 j hj).2.1
theorem isB.so {σ : St} {C : Bd} {k : Nat} {v : Int32} (g : isB σ 15 C) : isB (sy_sf σ 16 k v) 15 (sp_setSo C k v) := by
  obtain ⟨b0, b1, b2, b3, b4, b5, b6, b7, b8, b9⟩ := g
  unfold isB
  simp (disch := omega) only [Nat.reduceAdd, sf_n]
  refine ⟨b0, fun j hj => ⟨?_, (b1 j hj).2⟩, b2, b3, b4, b5, b6, b7, b8, b9⟩
  show _ = upd (bso C) k v j
  unfold upd
  rw [sf_at]
  by_cases e : j = k
  · rw [if_pos ⟨rfl, e⟩, if_pos e]
  · rw [if_neg (fun q => e q.2), if_neg e]; exact (b1 j hj).1
theorem m6_was_loop {σ0 : St} {T : Td} (hT : okT T) (hC : isCT σ0 T) {c k M : Nat} {F : Int32 → Bd} (hc : c = 16 ∨ c = 17) (hk : k < 11) (hM : M ≤ 4) (hF : ∀ v, okB (F v)) (hset : ∀ σ v w, isB σ 15 (F v) → isB (sy_sf σ c k w) 15 (F w)) : ∀ (j i : Nat), i + j = M → ∀ n, j < n → ∀ σ, cWk σ0 σ → (∀ w, isB (sy_sf σ c k w) 15 (F w)) → Ok (m6_was_L70 c (fun y σ => some (y, σ)) n (nI k) (nI M) (sp_bits (fun v => sp_fit T (F (nI v))) i) (nI i) σ) (fun y σ' => y = sp_bits (fun v => sp_fit T (F (nI v))) M ∧ cWk σ0 σ') := by
  intro j
  induction j with
  | zero =>
    intro i hi n hn σ hW hB
    obtain ⟨n, rfl⟩ : ∃ m, n = m + 1 := ⟨n - 1, by omega⟩
    show Ok (m6_was_L70b _ _ _ _ _ _ _ σ) _
    unfold m6_was_L70b
    rw [if_pos (nI_le (by omega) (by omega)), show i = M by omega]
    exact ok_some ⟨rfl, hW⟩
  | succ j ih =>
    intro i hi n hn σ hW hB
    obtain ⟨n, rfl⟩ : ∃ m, n = m + 1 := ⟨n - 1, by omega⟩
    show Ok (m6_was_L70b _ _ _ _ _ _ _ σ) _
    unfold m6_was_L70b
    rw [if_neg (nI_ge (by omega) (by omega)), gd_nI (by omega) (by omega), lt_eq, show sy_ix (nI k) = k from nI_clamp (by omega)]
    have hB1 := hB (nI i)
    have hEar : isEar (sy_sf σ c k (nI i)) T := by
      unfold isEar
      rw [sf_n (by omega), sf_n (by omega), sf_n (by omega), hW 43 (by omega), hW 44 (by omega), hW 45 (by omega)]
      exact hC.1.2.2.2.1
    refine ok_bd (m6_triedFits_sp hT hEar hB1 (hF _)) (fun y σ1 g => ?_)
    obtain ⟨rfl, g1, g2⟩ := g
    have hW1 : cWk σ0 σ1 := fun q z => by rw [g1 q (by omega), sf_n (by omega)]; exact hW q z
    have hk' := ih (i + 1) (by omega) n (by omega) σ1 hW1 (fun w => hset σ1 _ w (cFr.kB (by omega) g1 hB1))
    rw [sp_bits_s] at hk'
    rw [b01_0, nI_1]
    by_cases q : sp_fit T (F (nI i))
    · rw [if_pos q] at hk' ⊢
      exact hk'
    · rw [if_neg q] at hk' ⊢
      exact hk'
def an_was (T : Td) (a w : Int32) : Int32 := if (0 ≤ a ∧ a ≤ nI (bP (sp_told T)) - 1) ∧ (0 ≤ w ∧ w ≤ 1) then sp_was T (sy_ix a) (sy_ix w) else -2
theorem m6_was_le {σ0 σ : St} {T : Td} (hT : okT T) (hC : isCT σ0 T) {B : Bd} (ho : okB B) {k : Nat} (hk : k < 11) (hW : cWk σ0 σ) (hB : isB σ 15 B) : Ok (m6_was_L70 17 (fun y σ => some (y, σ)) sy_FU (nI k) 4 0 0 σ) (fun y σ' => y = sp_bits (fun v => sp_fit T (sp_setLe B k (nI v))) 4 ∧ cWk σ0 σ') :=
  m6_was_loop (M := 4) (F := sp_setLe B k) hT hC (Or.inr rfl) hk (by omega) (fun _ => okB_le ho) (fun σ v w h => by have := isB.le (k := k) (v := w) h; rwa [le_le] at this) 4 0 (by omega) sy_FU (by show _ < 1000; omega) σ hW (fun _ => isB.le hB)
theorem m6_was_so {σ0 σ : St} {T : Td} (hT : okT T) (hC : isCT σ0 T) {B : Bd} (ho : okB B) {k : Nat} (hk : k < 11) (hW : cWk σ0 σ) (hB : isB σ 15 B) : Ok (m6_was_L70 16 (fun y σ => some (y, σ)) sy_FU (nI k) 3 0 0 σ) (fun y σ' => y = sp_bits (fun v => sp_fit T (sp_setSo B k (nI v))) 3 ∧ cWk σ0 σ') :=
  m6_was_loop (M := 3) (F := sp_setSo B k) hT hC (Or.inl rfl) hk (by omega) (fun _ => okB_so ho) (fun σ v w h => by have := isB.so (k := k) (v := w) h; rwa [so_so] at this) 3 0 (by omega) sy_FU (by show _ < 1000; omega) σ hW (fun _ => isB.so hB)
theorem cl_was {σ : St} {T : Td} (hT : okT T) (hC : isCT σ T) (a w : Int32) : CL (m6_was a w σ) σ (an_was T a w) T := by
  have hP := (okB_told hT).1
  unfold m6_was an_was
  rw [m6_isPlayer_eq hC, bd_some, b01_0]
  by_cases ca : 0 ≤ a ∧ a ≤ nI (bP (sp_told T)) - 1
  · rw [if_pos ca, m6_within_eq, bd_some, b01_0]
    by_cases cw : 0 ≤ w ∧ w ≤ 1
    · rw [if_pos cw, if_pos (And.intro ca cw)]
      obtain ⟨k, hk, rfl⟩ := nI_rngP (by omega) ca
      obtain ⟨v, hv, rfl⟩ := nI_rng (n := 1) (by omega) cw
      rw [show sy_ix (nI k) = k from nI_clamp (by omega), show sy_ix (nI v) = v from nI_clamp (by omega)]
      refine ok_bd (m0_become_sp hC.1.2.2.1 (okB_told hT)) (fun _ σ1 g => ?_)
      have hW : cWk σ σ1 := fun q z => g.1 q (by omega)
      unfold sp_was m6_was_J52
      rcases (show v = 0 ∨ v = 1 by omega) with rfl | rfl
      · rw [if_pos (by rfl), if_pos (by rfl), if_pos rfl]
        exact ok_mono (m6_was_le hT hC (okB_told hT) (by omega) hW g.2) (fun y σ2 q => ⟨q.1, q.2.cl, q.2.CT hC⟩)
      · rw [if_neg (by decide), if_neg (by decide), if_neg (by decide)]
        exact ok_mono (m6_was_so hT hC (okB_told hT) (by omega) hW g.2) (fun y σ2 q => ⟨q.1, q.2.cl, q.2.CT hC⟩)
    · rw [if_neg cw, if_neg (fun q => cw q.2)]
      exact ok_some ⟨rfl, clF.rf, hC⟩
  · rw [if_neg ca, if_neg (fun q => ca q.1)]
    exact ok_some ⟨rfl, clF.rf, hC⟩
/-! the reference's -/
def mW (σ0 σ : St) : Prop := (∀ k, ¬ (k = 61 ∨ k = 68 ∨ (71 ≤ k ∧ k ≤ 77) ∨ k = 80) → σ k = σ0 k) ∧ ∀ j, ¬ (16 ≤ j ∧ j ≤ 19) → σ 61 j = σ0 61 j
theorem mW.wk {a b : St} (h : mW a b) : mWk a b := ⟨fun k q => h.1 k (by omega), fun j q => h.2 j (by omega)⟩
theorem isM.le {σ : St} {C : Bd} {k : Nat} {v : Int32} (g : isM σ C) : isM (sy_sf σ 68 (2 * k + 1) v) (sp_setLe C k v) := by
  unfold isM
  simp (disch := omega) only [sf_n]
  refine ⟨g.1, fun j hj => ⟨?_, ?_, (g.2.1 j hj).2.2⟩, g.2.2⟩
  · rw [sf_sn (by omega)]; exact (g.2.1 j hj).1
  · show _ = upd (ble C) k v j
    unfold upd
    rw [sf_at]
    by_cases e : j = k
    · rw [if_pos ⟨rfl, by omega⟩, if_pos e]
    · rw [if_neg (fun q => e (by have := q.2; omega)), if_neg e]; exact (g.2.1 j hj).2.1
theorem isM.so {σ : St} {C : Bd} {k : Nat} {v : Int32} (g : isM σ C) : isM (sy_sf σ 68 (2 * k) v) (sp_setSo C k v) := by
  unfold isM
  simp (disch := omega) only [sf_n]
  refine ⟨g.1, fun j hj => ⟨?_, ?_, (g.2.1 j hj).2.2⟩, g.2.2⟩
  · show _ = upd (bso C) k v j
    unfold upd
    rw [sf_at]
    by_cases e : j = k
    · rw [if_pos ⟨rfl, by omega⟩, if_pos e]
    · rw [if_neg (fun q => e (by have := q.2; omega)), if_neg e]; exact (g.2.1 j hj).1
  · rw [sf_sn (by omega)]; exact (g.2.1 j hj).2.1
theorem m7_sortOf_loop {σ0 : St} {T : Td} (hT : okT T) (hM : isMT σ0 T) {B : Bd} (ho : okB B) {k : Nat} (hk : k < 11) (v0 : Int32) : ∀ (j i : Nat), i + j = 3 → ∀ n, j < n → ∀ σ, mW σ0 σ → (∀ w, isM (sy_sf σ 68 (2 * k) w) (sp_setSo B k w)) → Ok (m7_sortOf_L14 (fun y11 y12 y13 σ14 => sy_gd (2 * y11) 22 (sy_lt (sy_sf σ14 68 (sy_ix (2 * y11)) y12) (fun σ15 => some (y13, σ15)))) n (nI k) v0 (sp_bits (fun v => sp_fit T (sp_setSo B k (nI v))) i) (nI i) σ) (fun y σ' => y = sp_bits (fun v => sp_fit T (sp_setSo B k (nI v))) 3 ∧ mW σ0 σ') := by
  intro j
  induction j with
  | zero =>
    intro i hi n hn σ hW hB
    obtain ⟨n, rfl⟩ : ∃ m, n = m + 1 := ⟨n - 1, by omega⟩
    show Ok (m7_sortOf_L14b _ _ _ _ _ _ σ) _
    unfold m7_sortOf_L14b
    rw [if_pos (show (3 : Int32) ≤ nI i from nI_le (a := 3) (by omega) (by omega)), show i = 3 by omega]
    simp (disch := omega) only [nI_2, gd_nI, sy_ix, ix_nI, lt_eq]
    exact ok_some ⟨rfl, fun q z => by rw [sf_n (by omega)]; exact hW.1 q z, fun q z => by rw [sf_n (by omega)]; exact hW.2 q z⟩
  | succ j ih =>
    intro i hi n hn σ hW hB
    obtain ⟨n, rfl⟩ : ∃ m, n = m + 1 := ⟨n - 1, by omega⟩
    show Ok (m7_sortOf_L14b _ _ _ _ _ _ σ) _
    unfold m7_sortOf_L14b
    rw [if_neg (show ¬ (3 : Int32) ≤ nI i from nI_ge (b := 3) (by omega) (by omega))]
    simp (disch := omega) only [nI_2, gd_nI, sy_ix, ix_nI, lt_eq]
    have hB1 := hB (nI i)
    have hEar : isTl (sy_sf σ 68 (2 * k) (nI i)) T := by
      unfold isTl
      rw [sf_n (by omega), sf_n (by omega), hW.2 28 (by omega), hW.1 79 (by omega)]
      exact hM.2.2.1
    refine ok_bd (m7_isHeard_sp hT hEar hB1 (okB_so ho)) (fun y σ1 g => ?_)
    obtain ⟨rfl, g1, g2⟩ := g
    have hW1 : mW σ0 σ1 := ⟨fun q z => by rw [g1.1 q (by omega), sf_n (by omega)]; exact hW.1 q z, fun q z => by rw [g1.2 q z, sf_n (by omega)]; exact hW.2 q z⟩
    have hk' := ih (i + 1) (by omega) n (by omega) σ1 hW1 (fun w => by have := isM.so (k := k) (v := w) (g1.isM hB1); rwa [so_so] at this)
    rw [sp_bits_s] at hk'
    rw [b01_0, nI_1]
    by_cases q : sp_fit T (sp_setSo B k (nI i))
    · rw [if_pos q] at hk' ⊢
      exact hk'
    · rw [if_neg q] at hk' ⊢
      rw [Int32.or_zero]
      exact hk'
theorem m7_ways_loop {σ0 : St} {N v : Nat} {x y z : Int32} {Q : Int32 → St → Prop} {E : Int32 → Int32 → Int32 → Int32 → St → Option (Int32 × St)} (hN : N ≤ 16) (hv : v < 4) (h9 : σ0 61 9 = nI N) (hE : ∀ σ, (∀ q, q ≠ 80 → σ q = σ0 q) → (∀ m, σ 80 m = if 16 * v ≤ m ∧ m < 16 * v + N then σ0 74 (m - 16 * v) else σ0 80 m) → Ok (E x y z (nI v) σ) Q) : ∀ (k i : Nat), i + k = N → ∀ n, k < n → ∀ σ, (∀ q, q ≠ 80 → σ q = σ0 q) → (∀ m, σ 80 m = if 16 * v ≤ m ∧ m < 16 * v + i then σ0 74 (m - 16 * v) else σ0 80 m) → Ok (m7_wasteOf_L55 E n x y z (nI v) (nI i) σ) Q := by
  intro k
  induction k with
  | zero =>
    intro i hi n hn σ hF h8
    obtain ⟨n, rfl⟩ : ∃ m, n = m + 1 := ⟨n - 1, by omega⟩
    show Ok (m7_wasteOf_L55b _ _ _ _ _ _ _ σ) _
    unfold m7_wasteOf_L55b
    rw [hF 61 (by omega), h9, if_pos (nI_le (by omega) (by omega))]
    rw [show i = N by omega] at h8
    exact hE σ hF h8
  | succ k ih =>
    intro i hi n hn σ hF h8
    obtain ⟨n, rfl⟩ : ∃ m, n = m + 1 := ⟨n - 1, by omega⟩
    show Ok (m7_wasteOf_L55b _ _ _ _ _ _ _ σ) _
    unfold m7_wasteOf_L55b
    rw [hF 61 (by omega), h9, if_neg (nI_ge (by omega) (by omega))]
    simp (disch := omega) only [nI_16, nI_add, nI_1, gd_nI, sy_ix, ix_nI, lt_eq]
    refine ih (i + 1) (by omega) n (by omega) _ (fun q hq => by rw [sf_n hq]; exact hF q hq) (fun m => ?_)
    rw [sf_at]
    by_cases e : m = 16 * v + i
    · rw [if_pos ⟨rfl, e⟩, if_pos (by omega), hF 74 (by omega)]
      congr 1; omega
    · rw [if_neg (fun q => e q.2), h8 m]
      by_cases c : 16 * v ≤ m ∧ m < 16 * v + i
      · rw [if_pos c, if_pos (by omega)]
      · rw [if_neg c, if_neg (by omega)]
/-- the ways set down, those ahead of i -/
abbrev isWy (σ : St) (B : Bd) (k i : Nat) : Prop := ∀ v, v < i → ∀ j, j < bN B → σ 80 (16 * v + j) = rSt (sp_run (sp_setLe B k (nI v)) 24) j
theorem m7_wasteOf_loop {σ0 : St} {T : Td} (hT : okT T) (hM : isMT σ0 T) {B : Bd} (ho : okB B) {k : Nat} (hk : k < 11) (v0 : Int32) : ∀ (j i : Nat), i + j = 4 → ∀ n, j < n → ∀ σ, mW σ0 σ → (∀ w, isM (sy_sf σ 68 (2 * k + 1) w) (sp_setLe B k w)) → isWy σ B k i → Ok (m7_wasteOf_L16 (fun y27 y28 y29 σ30 => sy_gd ((2 * y27) + 1) 22 (sy_lt (sy_sf σ30 68 (sy_ix ((2 * y27) + 1)) y28) (fun σ31 => some (y29, σ31)))) n (nI k) v0 (sp_bits (fun v => sp_fit T (sp_setLe B k (nI v))) i) (nI i) σ) (fun y σ' => y = sp_bits (fun v => sp_fit T (sp_setLe B k (nI v))) 4 ∧ mW σ0 σ' ∧ isWy σ' B k 4 ∧ isM σ' (sp_setLe B k v0)) := by
  have hN := ho.2.1
  intro j
  induction j with
  | zero =>
    intro i hi n hn σ hW hB hY
    obtain ⟨n, rfl⟩ : ∃ m, n = m + 1 := ⟨n - 1, by omega⟩
    show Ok (m7_wasteOf_L16b _ _ _ _ _ _ σ) _
    unfold m7_wasteOf_L16b
    rw [show i = 4 by omega] at hY ⊢
    rw [if_pos (by decide)]
    simp (disch := omega) only [nI_2, nI_1, gd_nI, sy_ix, ix_nI, lt_eq]
    exact ok_some ⟨rfl, ⟨fun q z => by rw [sf_n (by omega)]; exact hW.1 q z, fun q z => by rw [sf_n (by omega)]; exact hW.2 q z⟩, fun v hv j hj => by rw [sf_n (by omega)]; exact hY v hv j hj, hB v0⟩
  | succ j ih =>
    intro i hi n hn σ hW hB hY
    obtain ⟨n, rfl⟩ : ∃ m, n = m + 1 := ⟨n - 1, by omega⟩
    show Ok (m7_wasteOf_L16b _ _ _ _ _ _ σ) _
    unfold m7_wasteOf_L16b
    rw [if_neg (show ¬ (4 : Int32) ≤ nI i from nI_ge (b := 4) (by omega) (by omega))]
    simp (disch := omega) only [nI_2, nI_1, gd_nI, sy_ix, ix_nI, lt_eq]
    have hB1 := hB (nI i)
    have hEar : isTl (sy_sf σ 68 (2 * k + 1) (nI i)) T := by
      unfold isTl
      rw [sf_n (by omega), sf_n (by omega), hW.2 28 (by omega), hW.1 79 (by omega)]
      exact hM.2.2.1
    refine ok_bd (m7_isHeard_sp hT hEar hB1 (okB_le ho)) (fun y σ1 g => ?_)
    obtain ⟨rfl, g1, g2⟩ := g
    have m1 := g1.isM hB1
    have h9 : σ1 61 9 = nI (bN B) := m1.2.2.1
    have fin : ∀ z : Int32, z = sp_bits (fun v => sp_fit T (sp_setLe B k (nI v))) (i + 1) → Ok (m7_wasteOf_L55 (fun y16 y17 y18 y19 σ20 => m7_wasteOf_L16 (fun y27 y28 y29 σ30 => sy_gd ((2 * y27) + 1) 22 (sy_lt (sy_sf σ30 68 (sy_ix ((2 * y27) + 1)) y28) (fun σ31 => some (y29, σ31)))) n y16 y17 y18 (y19 + 1) σ20) sy_FU (nI k) v0 z (nI i) 0 σ1) (fun y σ' => y = sp_bits (fun v => sp_fit T (sp_setLe B k (nI v))) 4 ∧ mW σ0 σ' ∧ isWy σ' B k 4 ∧ isM σ' (sp_setLe B k v0)) := by
      intro z hz
      refine m7_ways_loop (σ0 := σ1) (N := bN B) (v := i) hN (by omega) h9 (fun σ2 f2 e2 => ?_) (bN B) 0 (Nat.zero_add _) sy_FU (by show _ < 1000; omega) σ1 (fun _ _ => rfl) (fun m => by rw [if_neg (by omega)])
      rw [hz, nI_1]
      refine ih (i + 1) (by omega) n (by omega) σ2 ⟨fun q w => by rw [f2 q (by omega), g1.1 q (by omega), sf_n (by omega)]; exact hW.1 q w, fun q w => by rw [f2 61 (by omega), g1.2 q w, sf_n (by omega)]; exact hW.2 q w⟩ (fun w => ?_) (fun v hv j hj => ?_)
      · have m2 : isM σ2 (sp_setLe B k (nI i)) := by
          unfold isM
          rw [f2 61 (by omega), f2 68 (by omega), f2 69 (by omega), f2 70 (by omega), f2 78 (by omega)]
          exact m1
        have := isM.le (k := k) (v := w) m2
        rwa [le_le] at this
      · rw [e2]
        by_cases e : v = i
        · rw [if_pos (by omega), e, show 16 * i + j - 16 * i = j by omega]
          exact g2.2.2.2.2.2.1 j hj (Or.inl (ho.2.2.2.2.2.2.1 j hj).1)
        · rw [if_neg (by omega), g1.1 80 (by omega), sf_n (by omega)]
          exact hY v (by omega) j hj
    rw [b01_0]
    by_cases q : sp_fit T (sp_setLe B k (nI i))
    · rw [if_pos q]
      exact fin _ (by rw [sp_bits_s, if_pos q]; rfl)
    · rw [if_neg q]
      exact fin _ (by rw [sp_bits_s, if_neg q, Int32.or_zero])
theorem m7_wasteOf_sp {σ : St} {T : Td} (hT : okT T) (hM : isMT σ T) {B : Bd} (ho : okB B) (hB : isM σ B) {k : Nat} (hk : k < 11) : Ok (m7_wasteOf (nI k) σ) (fun y σ' => y = sp_bits (fun v => sp_fit T (sp_setLe B k (nI v))) 4 ∧ mW σ σ' ∧ isWy σ' B k 4 ∧ σ' 61 9 = nI (bN B)) := by
  unfold m7_wasteOf
  simp (disch := omega) only [nI_2, nI_1, gd_nI, sy_ix, ix_nI, lt_eq]
  exact ok_mono (m7_wasteOf_loop hT hM ho hk _ 4 0 (by omega) sy_FU (by show _ < 1000; omega) σ ⟨fun _ _ => rfl, fun _ _ => rfl⟩ (fun _ => isM.le hB) (fun v hv => by omega)) (fun y σ1 g => ⟨g.1, g.2.1, g.2.2.1, g.2.2.2.2.2.1⟩)
theorem m7_sortOf_sp {σ : St} {T : Td} (hT : okT T) (hM : isMT σ T) {B : Bd} (ho : okB B) (hB : isM σ B) {k : Nat} (hk : k < 11) : Ok (m7_sortOf (nI k) σ) (fun y σ' => y = sp_bits (fun v => sp_fit T (sp_setSo B k (nI v))) 3 ∧ mW σ σ') := by
  unfold m7_sortOf
  rw [nI_2, gd_nI (by omega) (by omega), lt_eq]
  exact m7_sortOf_loop hT hM ho hk _ 3 0 (by omega) sy_FU (by show _ < 1000; omega) σ ⟨fun _ _ => rfl, fun _ _ => rfl⟩ (fun _ => isM.so hB)
theorem md_was {σ : St} {T : Td} (hT : okT T) (hM : isMT σ T) (a w : Int32) : MD (m7_was a w σ) σ (an_was T a w) T := by
  have hP := (okB_told hT).1
  unfold m7_was an_was
  refine md_find hT hM (fun σ1 f1 m1 b1 r1 => ?_)
  rw [m7_isPlayer_eq, bd_some, b01_0, b1.1]
  by_cases ca : 0 ≤ a ∧ a ≤ nI (bP (sp_told T)) - 1
  · rw [if_pos ca, m7_isTwo_eq, bd_some, b01_0]
    by_cases cw : 0 ≤ w ∧ w ≤ 1
    · rw [if_pos cw, if_pos (And.intro ca cw)]
      obtain ⟨k, hk, rfl⟩ := nI_rngP (by omega) ca
      obtain ⟨v, hv, rfl⟩ := nI_rng (n := 1) (by omega) cw
      rw [show sy_ix (nI k) = k from nI_clamp (by omega), show sy_ix (nI v) = v from nI_clamp (by omega)]
      unfold sp_was m7_wasOf
      rcases (show v = 0 ∨ v = 1 by omega) with rfl | rfl
      · rw [if_pos (by rfl), if_pos rfl]
        exact ok_bd (ok_bd (m7_wasteOf_sp hT m1 (okB_told hT) b1 (by omega)) (fun y σ2 g => ok_some (Q := fun y σ' => y = _ ∧ mW σ1 σ') ⟨g.1, g.2.1⟩)) (fun y σ2 g => ok_some ⟨g.1, f1.tr g.2.wk.md, g.2.wk.MT m1⟩)
      · rw [if_neg (by decide), if_neg (by decide)]
        exact ok_bd (ok_bd (m7_sortOf_sp hT m1 (okB_told hT) b1 (by omega)) (fun y σ2 g => ok_some (Q := fun y σ' => y = _ ∧ mW σ1 σ') g)) (fun y σ2 g => ok_some ⟨g.1, f1.tr g.2.wk.md, g.2.wk.MT m1⟩)
    · rw [if_neg cw, if_neg (fun q => cw q.2)]
      exact ok_some ⟨rfl, f1, m1⟩
  · rw [if_neg ca, if_neg (fun q => ca q.1)]
    exact ok_some ⟨rfl, f1, m1⟩
