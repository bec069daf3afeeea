/-! ===== promise 29: years by a seed ===== -/
def sp_nx (x : Int32) : Int32 := (1103515245 * x) + 12345
def sp_sq (s : Int32) : Nat → Int32
  | 0 => s
  | n + 1 => sp_nx (sp_sq s n)
def sp_hi (x : Int32) : Nat := x.toBitVec.toNat / 2 ^ 16
theorem nI_self (x : Int32) : nI x.toBitVec.toNat = x := by
  apply Int32.toBitVec_inj.mp
  unfold nI
  rw [Int32.toBitVec_ofNat', BitVec.ofNat_toNat, BitVec.setWidth_eq]
theorem sp_hi_lt (x : Int32) : sp_hi x < 65536 := by
  have := x.toBitVec.isLt
  unfold sp_hi
  omega
theorem sh16 (x : Int32) : (Int32.toUInt32 x >>> (Int32.toUInt32 16 &&& Int32.toUInt32 31)).toInt32 = nI (sp_hi x) := by
  have := pk_ushrN (n := x.toBitVec.toNat) x.toBitVec.isLt 16 16 (by decide)
  rw [nI_self] at this
  exact this
theorem rem_hi (x : Int32) {d : Nat} (h0 : 0 < d) (hd : d < 2 ^ 31) : nI (sp_hi x) - nI (sp_hi x) / nI d * nI d = nI (sp_hi x % d) := by
  have := sp_hi_lt x
  exact pk_rem (by omega) h0 hd
def sp_yb (s : Int32) (i : Nat) : Nat := sp_hi (sp_sq s (2 * i + 1)) % 24
def sp_yp (P : Nat) (s : Int32) (i : Nat) : Nat := sp_hi (sp_sq s (2 * i + 2)) % P
def sp_year (B : Bd) (s : Int32) (n : Nat) : Bd := sp_setNt B (if bP B = 0 then 0 else n) (sp_yb s) (sp_yp (bP B) s)
theorem okB_year {B : Bd} {s : Int32} {n : Nat} (ho : okB B) (hn : n ≤ 16) : okB (sp_year B s n) := by
  have hP := ho.1
  refine okB_nt (by split <;> omega) (fun i hi => ⟨Nat.mod_lt _ (by omega), ?_⟩) ho
  by_cases c : bP B = 0
  · rw [if_pos c] at hi; omega
  · have := Nat.mod_lt (sp_hi (sp_sq s (2 * i + 2))) (show 0 < bP B by omega)
    show sp_hi (sp_sq s (2 * i + 2)) % bP B < 11
    omega
def sp_yr (B : Bd) (s : Int32) (n : Nat) (x : Int32) : Int32 := if x = 0 then rSnd (sp_run (sp_year B s n) 24) else rHold (sp_run (sp_year B s n) 24)
def an_years (T : Td) (s a x : Int32) : Int32 := if (0 ≤ a ∧ a ≤ 16) ∧ (0 ≤ x ∧ x ≤ 1) then sp_yr (sp_told T) s (sy_ix a) x else -2
theorem isB.nt {x y : St} {B : Bd} {N : Nat} {nb np : Nat → Nat} (h : tnF 15 x y) (hN : isNt y 15 N nb np) (g : isB x 15 B) : isB y 15 (sp_setNt B N nb np) := by
  obtain ⟨b0, b1, b2, b3, b4, b5, b6, b7, b8, b9⟩ := g
  refine ⟨?_, fun k hk => ?_, hN.1, hN.2.1, hN.2.2, ?_, ?_, fun e he => ?_, ?_, ?_⟩
  · rw [h.2 0 (by omega)]; exact b0
  · rw [h.1 16 (by omega) (by omega), h.1 17 (by omega) (by omega), h.1 18 (by omega) (by omega), h.1 19 (by omega) (by omega)]; exact b1 k hk
  · rw [h.2 9 (by omega)]; exact b5
  · rw [h.2 10 (by omega)]; exact b6
  · rw [h.1 23 (by omega) (by omega), h.1 24 (by omega) (by omega)]; exact b7 e he
  · rw [h.2 13 (by omega)]; exact b8
  · rw [h.2 14 (by omega)]; exact b9
theorem m6_draw_loop {σ0 : St} {P N : Nat} {s : Int32} {Q : Unit → St → Prop} {E : St → Option (Unit × St)} (hP : 0 < P ∧ P ≤ 11) (hN : N ≤ 16) (h0 : σ0 5 0 = nI P) (hE : ∀ σ, tnF 15 σ0 σ → isNt σ 15 N (sp_yb s) (sp_yp P s) → Ok (E σ) Q) : ∀ (k i : Nat), i + k = N → ∀ n, k < n → ∀ σ, tnF 15 σ0 σ → isNt σ 15 i (sp_yb s) (sp_yp P s) → Ok (m6_drawNotes_L16 E n (nI N) (sp_sq s (2 * i)) (nI i) σ) Q := by
  intro k
  induction k with
  | zero =>
    intro i hi n hn σ hF h
    obtain ⟨n, rfl⟩ : ∃ m, n = m + 1 := ⟨n - 1, by omega⟩
    show Ok (m6_drawNotes_L16b _ _ _ _ _ σ) _
    unfold m6_drawNotes_L16b
    rw [if_pos (nI_le (by omega) (by omega))]
    rw [show i = N by omega] at h
    exact hE σ hF h
  | succ k ih =>
    intro i hi n hn σ hF h
    obtain ⟨n, rfl⟩ : ∃ m, n = m + 1 := ⟨n - 1, by omega⟩
    have e1 : m6_nextSeed (sp_sq s (2 * i)) σ = some (sp_sq s (2 * i + 1), σ) := rfl
    have e2 : m6_nextSeed (sp_sq s (2 * i + 1)) σ = some (sp_sq s (2 * i + 2), σ) := rfl
    have e5 : σ 5 0 = nI P := by rw [hF.1 5 (by omega) (by omega)]; exact h0
    show Ok (m6_drawNotes_L16b _ _ _ _ _ σ) _
    unfold m6_drawNotes_L16b
    rw [if_neg (nI_ge (by omega) (by omega)), e1, bd_some, dv_ne (by decide), lt_eq, e2, bd_some, e5, dv_ne (nI_ne0 (by omega) (by omega)), sh16, sh16, rem_hi _ (by omega) (by omega), show nI (sp_hi (sp_sq s (2 * i + 1))) - nI (sp_hi (sp_sq s (2 * i + 1))) / 24 * 24 = nI (sp_yb s i) from rem_hi (d := 24) _ (by omega) (by omega)]
    have l2 : sp_yp P s i < 11 := by
      have := Nat.mod_lt (sp_hi (sp_sq s (2 * i + 2))) hP.1
      show sp_hi (sp_sq s (2 * i + 2)) % P < 11
      omega
    refine ok_bd (m0_addNote_sp (nb := sp_yb s) (np := sp_yp P s) (by omega) (Nat.mod_lt _ (by omega)) l2 h) (fun _ σ1 g => ?_)
    rw [nI_1]
    exact ih (i + 1) (by omega) n (by omega) σ1 (hF.tr g.1) g.2
theorem m6_drawn {σ : St} {P n : Nat} {s : Int32} (hP : P ≤ 11) (hn : n ≤ 16) (h0 : σ 5 0 = nI P) (h : isNt σ 15 0 (sp_yb s) (sp_yp P s)) : Ok (m6_drawNotes s (nI n) σ) (fun _ σ' => tnF 15 σ σ' ∧ isNt σ' 15 (if P = 0 then 0 else n) (sp_yb s) (sp_yp P s)) := by
  unfold m6_drawNotes
  rw [h0]
  by_cases c : P = 0
  · rw [if_pos (by rw [c]; rfl), if_pos c]
    exact ok_some ⟨tnF.rf, h⟩
  · rw [if_neg (nI_ne0 (by omega) (by omega)), if_neg c]
    exact m6_draw_loop (σ0 := σ) (P := P) (N := n) (s := s) ⟨by omega, hP⟩ hn h0 (fun σ1 f1 g1 => ok_some ⟨f1, g1⟩) n 0 (Nat.zero_add _) sy_FU (by show _ < 1000; omega) σ tnF.rf h
theorem note_hb (t : Nat) (x : Int32) (r : Rs) : rHB (sp_note t x r) t = rHold (sp_note t x r) := by
  show upd (rHB r) t (rHold r) t = rHold r
  exact pk_us
theorem sp_hb23 (B : Bd) : rHB (sp_run B 24) 23 = rHold (sp_run B 24) := by
  have e : sp_run B 24 = sp_beat B 23 (sp_run B 23) := rfl
  rw [e]
  unfold sp_beat
  exact note_hb _ _ _
theorem tnF.cw {x y : St} (h : tnF 15 x y) : cWk x y := fun k q => h.1 k (by omega) (by omega)
theorem m6_yearB {σ0 σ : St} {B : Bd} {s x : Int32} {n : Nat} (ho : okB B) (hn : n ≤ 16) (h0 : σ0 5 0 = nI (bP B)) (hW : cWk σ0 σ) (hB : isB σ 15 B) : Ok (sy_bd (m0_clearNotes 15 σ) (fun _ σ6 => sy_bd (m6_drawNotes s (nI n) σ6) (fun _ σ7 => sy_bd (m3_play 34 15 σ7) (fun _ σ8 => if x = 0 then (some ((σ8 34 7), σ8)) else (sy_gd 23 24 (some ((σ8 36 (sy_ix 23)), σ8))))))) (fun y σ' => y = sp_yr B s n x ∧ cWk σ0 σ') := by
  refine ok_bd (m0_clearNotes_sp (nb := sp_yb s) (np := sp_yp (bP B) s)) (fun _ σ1 g1 => ?_)
  refine ok_bd (m6_drawn ho.1 hn (by rw [g1.1.cw 5 (by omega), hW 5 (by omega)]; exact h0) g1.2) (fun _ σ2 g2 => ?_)
  have b2 : isB σ2 15 (sp_year B s n) := isB.nt (g1.1.tr g2.1) g2.2 hB
  refine ok_bd (m3_play_sp (by omega) b2 (okB_year ho hn)) (fun _ σ3 g3 => ?_)
  have w3 : cWk σ0 σ3 := (hW.tr (g1.1.tr g2.1).cw).tr (fun k q => g3.1 k (by omega))
  unfold sp_yr
  by_cases c : x = 0
  · rw [if_pos c, if_pos c]
    exact ok_some ⟨g3.2.2.2.2.2.1, w3⟩
  · rw [if_neg c, if_neg c, show sy_gd 23 24 (some ((σ3 36 (sy_ix 23)), σ3)) = some (σ3 36 23, σ3) from gd_nI (j := 23) (by omega) (by omega)]
    have e := (g3.2.2.2.2.2.2.2.2.2.2 23 (by omega)).2.1
    exact ok_some ⟨e.trans (sp_hb23 _), w3⟩
theorem cs_P {σ : St} {T : Td} (h : isCS σ T) : σ 5 0 = nI (bP (sp_told T)) := h.2.2.1.1
theorem cl_years {σ : St} {T : Td} (hT : okT T) (hC : isCT σ T) (s a x : Int32) : CL (m6_years s a x σ) σ (an_years T s a x) T := by
  unfold m6_years an_years
  rw [m6_within_eq, bd_some, b01_0]
  by_cases ca : 0 ≤ a ∧ a ≤ 16
  · rw [if_pos ca, m6_within_eq, bd_some, b01_0]
    by_cases cx : 0 ≤ x ∧ x ≤ 1
    · rw [if_pos cx, if_pos (And.intro ca cx)]
      obtain ⟨n, hn, rfl⟩ := nI_rng (n := 16) (by omega) ca
      rw [show sy_ix (nI n) = n from nI_clamp (by omega)]
      refine ok_bd (m0_become_sp hC.1.2.2.1 (okB_told hT)) (fun _ σ1 g => ?_)
      exact ok_mono (m6_yearB (okB_told hT) hn (cs_P hC.1) (fun q z => g.1 q (by omega)) g.2) (fun y σ2 q => ⟨q.1, q.2.cl, q.2.CT hC⟩)
    · rw [if_neg cx, if_neg (fun q => cx q.2)]
      exact ok_some ⟨rfl, clF.rf, hC⟩
  · rw [if_neg ca, if_neg (fun q => ca q.1)]
    exact ok_some ⟨rfl, clF.rf, hC⟩
/-! the reference's -/
theorem m7_lot_eq {σ : St} {d : Nat} {x : Int32} (h0 : 0 < d) (hd : d < 2 ^ 31) (h : σ 61 31 = x) : m7_lot (nI d) σ = some (nI (sp_hi (sp_nx x) % d), sy_sf σ 61 31 (sp_nx x)) := by
  unfold m7_lot
  rw [lt_eq, dv_ne (nI_ne0 h0 hd), sf_ss, sh16, rem_hi _ h0 hd, h]
  rfl
def mY (σ0 σ : St) : Prop := (∀ k, k ≠ 61 → k ≠ 69 → σ k = σ0 k) ∧ ∀ j, j ≠ 9 → j ≠ 31 → σ 61 j = σ0 61 j
theorem mY.wk {a b : St} (h : mY a b) : mWk a b := ⟨fun k q => h.1 k (by omega) (by omega), fun j q => h.2 j (by omega) (by omega)⟩
abbrev isYn (σ : St) (N : Nat) (nb np : Nat → Nat) : Prop := σ 61 9 = nI N ∧ ∀ j, j < N → σ 69 (2 * j) = nI (nb j) ∧ σ 69 (2 * j + 1) = nI (np j)
theorem m7_year_loop {σ0 : St} {P N : Nat} {s x : Int32} {Q : Int32 → St → Prop} {E : Int32 → St → Option (Int32 × St)} (hP : 0 < P ∧ P ≤ 11) (hN : N ≤ 16) (h0 : σ0 61 7 = nI P) (hE : ∀ σ, mY σ0 σ → isYn σ N (sp_yb s) (sp_yp P s) → Ok (E x σ) Q) : ∀ (k i : Nat), i + k = N → ∀ n, k < n → ∀ σ, mY σ0 σ → σ 61 31 = sp_sq s (2 * i) → isYn σ i (sp_yb s) (sp_yp P s) → Ok (m7_yearsOf_L13 E n (nI N) x (nI i) σ) Q := by
  intro k
  induction k with
  | zero =>
    intro i hi n hn σ hF hs h
    obtain ⟨n, rfl⟩ : ∃ m, n = m + 1 := ⟨n - 1, by omega⟩
    show Ok (m7_yearsOf_L13b _ _ _ _ _ σ) _
    unfold m7_yearsOf_L13b
    rw [if_pos (nI_le (by omega) (by omega))]
    rw [show i = N by omega] at h
    exact hE σ hF h
  | succ k ih =>
    intro i hi n hn σ hF hs h
    obtain ⟨n, rfl⟩ : ∃ m, n = m + 1 := ⟨n - 1, by omega⟩
    have e7 : σ 61 7 = nI P := by rw [hF.2 7 (by omega) (by omega)]; exact h0
    show Ok (m7_yearsOf_L13b _ _ _ _ _ σ) _
    unfold m7_yearsOf_L13b
    rw [if_neg (nI_ge (by omega) (by omega)), e7, if_neg (nI_nle (by omega) (by omega)), show m7_lot 24 σ = _ from m7_lot_eq (d := 24) (by omega) (by omega) hs, bd_some, nI_2, gd_nI (by omega) (by omega), lt_eq, show sy_ix (nI (2 * i)) = 2 * i from nI_clamp (by omega)]
    rw [show (sy_sf (sy_sf σ 61 31 (sp_nx (sp_sq s (2 * i)))) 69 (2 * i) (nI (sp_hi (sp_nx (sp_sq s (2 * i))) % 24))) 61 7 = nI P by rw [sf_n (by omega), sf_sn (by omega)]; exact e7]
    rw [m7_lot_eq (x := sp_nx (sp_sq s (2 * i))) hP.1 (by omega) (by rw [sf_n (by omega), sf_ss]), bd_some, nI_1, gd_nI (by omega) (by omega), lt_eq, lt_eq, show sy_ix (nI (2 * i + 1)) = 2 * i + 1 from nI_clamp (by omega), nI_1]
    refine ih (i + 1) (by omega) n (by omega) _ ⟨fun q a b => ?_, fun j a b => ?_⟩ ?_ ⟨?_, fun j hj => ⟨?_, ?_⟩⟩
    · simp (disch := omega) only [sf_n]; exact hF.1 q a b
    · simp (disch := omega) only [sf_n, sf_sn]; exact hF.2 j a b
    · simp (disch := omega) only [sf_n, sf_sn, sf_ss]; rfl
    · simp (disch := omega) only [sf_n, sf_sn, sf_ss, h.1, nI_1]
    · rw [sf_n (by omega)]
      by_cases e : j = i
      · rw [e, sf_sn (by omega), sf_n (by omega), sf_ss]; rfl
      · rw [sf_sn (by omega), sf_n (by omega), sf_sn (by omega), sf_n (by omega)]
        exact (h.2 j (by omega)).1
    · rw [sf_n (by omega)]
      by_cases e : j = i
      · rw [e, sf_ss]; rfl
      · rw [sf_sn (by omega), sf_n (by omega), sf_sn (by omega), sf_n (by omega)]
        exact (h.2 j (by omega)).2
theorem isM.nt {x y : St} {B : Bd} {N : Nat} {nb np : Nat → Nat} (h : mY x y) (hN : isYn y N nb np) (g : isM x B) : isM y (sp_setNt B N nb np) := by
  obtain ⟨b0, b1, b2, b3, b4, b5, b6, b7, b8⟩ := g
  refine ⟨?_, fun k hk => ?_, hN.1, hN.2, ?_, ?_, fun e he => ?_, ?_, ?_⟩
  · rw [h.2 7 (by omega) (by omega)]; exact b0
  · rw [h.1 68 (by omega) (by omega), h.1 78 (by omega) (by omega)]; exact b1 k hk
  · rw [h.2 11 (by omega) (by omega)]; exact b4
  · rw [h.2 12 (by omega) (by omega)]; exact b5
  · rw [h.1 70 (by omega) (by omega)]; exact b6 e he
  · rw [h.2 14 (by omega) (by omega)]; exact b7
  · rw [h.2 15 (by omega) (by omega)]; exact b8
theorem m7_yearsOf_B {σ : St} {B : Bd} {s x : Int32} {n : Nat} {Q : Int32 → St → Prop} (ho : okB B) (hn : n ≤ 16) (hM : isM σ B) (hE : ∀ σ1, mWk σ σ1 → isM σ1 (sp_year B s n) → Ok (m7_yearsOf_J76 x σ1) Q) : Ok (m7_yearsOf s (nI n) x σ) Q := by
  have hP := ho.1
  unfold m7_yearsOf
  rw [lt_eq, lt_eq]
  have f2 : mY σ (sy_sf (sy_sf σ 61 31 s) 61 9 0) := ⟨fun k a b => by rw [sf_n a, sf_n a], fun j a b => by rw [sf_sn a, sf_sn b]⟩
  have y2 : isYn (sy_sf (sy_sf σ 61 31 s) 61 9 0) 0 (sp_yb s) (sp_yp (bP B) s) := ⟨sf_ss _ _ _ _, fun j hj => by omega⟩
  have s2 : (sy_sf (sy_sf σ 61 31 s) 61 9 0) 61 31 = s := by rw [sf_sn (by omega), sf_ss]
  have e7 : (sy_sf (sy_sf σ 61 31 s) 61 9 0) 61 7 = nI (bP B) := by rw [f2.2 7 (by omega) (by omega)]; exact hM.1
  by_cases c : bP B = 0
  · have fin : Ok (m7_yearsOf_J76 x (sy_sf (sy_sf σ 61 31 s) 61 9 0)) Q := by
      refine hE _ f2.wk ?_
      unfold sp_year
      rw [if_pos c]
      exact isM.nt f2 y2 hM
    show Ok (m7_yearsOf_L13b (m7_yearsOf_L13 _ 999) _ _ _ _ _) _
    unfold m7_yearsOf_L13b
    rw [e7, if_pos (show nI (bP B) ≤ 0 by rw [c]; decide), ite_self]
    exact fin
  · refine m7_year_loop (σ0 := σ) (P := bP B) (N := n) (s := s) ⟨by omega, hP⟩ hn hM.1 (fun σ1 f1 g1 => ?_) n 0 (Nat.zero_add _) sy_FU (by show _ < 1000; omega) _ f2 s2 y2
    refine hE σ1 f1.wk ?_
    unfold sp_year
    rw [if_neg c]
    exact isM.nt f1 g1 hM
/-- the reference has read the texts, and sits as it should -/
abbrev isMD (σ : St) (T : Td) : Prop := isMT σ T ∧ isM σ (sp_told T)
theorem m7_yearsOf_sp {σ : St} {T : Td} {s x : Int32} {n : Nat} (hT : okT T) (hM : isMT σ T) (hB : isM σ (sp_told T)) (hn : n ≤ 16) : Ok (m7_yearsOf s (nI n) x σ) (fun y σ' => y = sp_yr (sp_told T) s n x ∧ mWk σ σ' ∧ isM σ' (sp_told T)) := by
  refine m7_yearsOf_B (okB_told hT) hn hB (fun σ1 w1 b1 => ?_)
  unfold m7_yearsOf_J76
  refine m7_try_sp b1 (okB_year (okB_told hT) hn) (fun σ2 g2 b2 r2 => ?_)
  have w2 := w1.tr g2.wk
  have t2 := w2.MT hM
  refine ok_bd (isMT.nt hT t2) (fun _ σ3 h3 => ?_)
  have w3 := w2.tr h3.2.1.wk
  have t3 := w3.MT hM
  have m3 : isM σ3 (sp_told T) := by
    refine ⟨?_, fun k hk => ?_, h3.2.2.1, h3.2.2.2, t3.2.1.1, t3.2.1.2.1, t3.2.1.2.2.1, t3.2.1.2.2.2.1, t3.2.1.2.2.2.2⟩
    · rw [h3.2.1.2 7 (by omega)]; exact b2.1
    · rw [h3.2.1.1 68 (by omega) (by omega), h3.2.1.1 78 (by omega) (by omega)]; exact b2.2.1 k hk
  unfold sp_yr
  by_cases c : x = 0
  · rw [if_pos c, if_pos c]
    exact ok_some ⟨rfl, w3, m3⟩
  · rw [if_neg c, if_neg c]
    exact ok_some ⟨by rw [h3.2.1.2 17 (by omega)]; exact r2.2.1, w3, m3⟩
theorem md_years {σ : St} {T : Td} (hT : okT T) (hM : isMT σ T) (s a x : Int32) : MD (m7_years s a x σ) σ (an_years T s a x) T := by
  unfold m7_years an_years
  refine md_find hT hM (fun σ1 f1 m1 b1 r1 => ?_)
  rw [show m7_in a.toInt64 0 16 σ1 = _ from m7_in32 a 0 16 σ1, bd_some, b01_0]
  by_cases ca : 0 ≤ a ∧ a ≤ 16
  · rw [if_pos ca, m7_isTwo_eq, bd_some, b01_0]
    by_cases cx : 0 ≤ x ∧ x ≤ 1
    · rw [if_pos cx, if_pos (And.intro ca cx)]
      obtain ⟨n, hn, rfl⟩ := nI_rng (n := 16) (by omega) ca
      rw [show sy_ix (nI n) = n from nI_clamp (by omega)]
      exact ok_bd (m7_yearsOf_sp hT m1 b1 hn) (fun y σ2 g => ok_some ⟨g.1, f1.tr g.2.1.md, g.2.1.MT m1⟩)
    · rw [if_neg cx, if_neg (fun q => cx q.2)]
      exact ok_some ⟨rfl, f1, m1⟩
  · rw [if_neg ca, if_neg (fun q => ca q.1)]
    exact ok_some ⟨rfl, f1, m1⟩
