/-! ===== the class plays a band ===== -/
/-- a mask of ints as a number: bit i -/
theorem nI_or (a b : Nat) : nI a ||| nI b = nI (a ||| b) := by
  unfold nI
  apply Int32.toBitVec_inj.mp
  rw [Int32.toBitVec_or]
  simp [Int32.toBitVec_ofNat']
theorem nI_e0 {a : Nat} (h : a < 2 ^ 31) : nI a = 0 ↔ a = 0 := nI_eq (b := 0) h (by decide)
theorem nI_e1 {a : Nat} (h : a < 2 ^ 31) : nI a = 1 ↔ a = 1 := nI_eq (b := 1) h (by decide)
theorem nI_e2 {a : Nat} (h : a < 2 ^ 31) : nI a = 2 ↔ a = 2 := nI_eq (b := 2) h (by decide)
theorem sh_1 {t : Nat} (h : t < 31) : (1 : Int32) <<< (nI t &&& 31) = nI (2 ^ t) := by
  have e : nI t &&& 31 = nI t := by
    rw [pk_andN (by omega) 5 (by decide), Nat.mod_eq_of_lt (by omega)]
  rw [e, show (1 : Int32) = nI 1 from rfl, pk_shlN (nI t) t (by
    rcases (show t = 0 ∨ t = 1 ∨ t = 2 ∨ t = 3 ∨ t = 4 ∨ t = 5 ∨ t = 6 ∨ t = 7 ∨ t = 8 ∨ t = 9 ∨ t = 10 ∨ t = 11 ∨ t = 12 ∨ t = 13 ∨ t = 14 ∨ t = 15 ∨ t = 16 ∨ t = 17 ∨ t = 18 ∨ t = 19 ∨ t = 20 ∨ t = 21 ∨ t = 22 ∨ t = 23 ∨ t = 24 ∨ t = 25 ∨ t = 26 ∨ t = 27 ∨ t = 28 ∨ t = 29 ∨ t = 30 by omega) with rfl | rfl | rfl | rfl | rfl | rfl | rfl | rfl | rfl | rfl | rfl | rfl | rfl | rfl | rfl | rfl | rfl | rfl | rfl | rfl | rfl | rfl | rfl | rfl | rfl | rfl | rfl | rfl | rfl | rfl | rfl <;> decide) (by
    rw [Nat.one_mul]; exact Nat.pow_lt_pow_right (by omega) (by omega)), Nat.one_mul]
theorem shr_n {t m : Nat} (h : t < 31) (hm : m < 2 ^ 31) : nI m >>> (nI t &&& 31) = nI (m / 2 ^ t) := by
  have e : nI t &&& 31 = nI t := by
    rw [pk_andN (by omega) 5 (by decide), Nat.mod_eq_of_lt (by omega)]
  rw [e, pk_shrN hm (nI t) t (by
    rcases (show t = 0 ∨ t = 1 ∨ t = 2 ∨ t = 3 ∨ t = 4 ∨ t = 5 ∨ t = 6 ∨ t = 7 ∨ t = 8 ∨ t = 9 ∨ t = 10 ∨ t = 11 ∨ t = 12 ∨ t = 13 ∨ t = 14 ∨ t = 15 ∨ t = 16 ∨ t = 17 ∨ t = 18 ∨ t = 19 ∨ t = 20 ∨ t = 21 ∨ t = 22 ∨ t = 23 ∨ t = 24 ∨ t = 25 ∨ t = 26 ∨ t = 27 ∨ t = 28 ∨ t = 29 ∨ t = 30 by omega) with rfl | rfl | rfl | rfl | rfl | rfl | rfl | rfl | rfl | rfl | rfl | rfl | rfl | rfl | rfl | rfl | rfl | rfl | rfl | rfl | rfl | rfl | rfl | rfl | rfl | rfl | rfl | rfl | rfl | rfl | rfl <;> decide)]
theorem bit_n {t m : Nat} (h : t < 31) (hm : m < 2 ^ 31) : sp_bit (nI m) t = nI (m / 2 ^ t % 2) := by
  show (nI m >>> (nI t &&& 31)) &&& 1 = _
  have hd : m / 2 ^ t ≤ m := Nat.div_le_self m (2 ^ t)
  rw [shr_n h hm, pk_andN (by omega) 1 (by decide)]
theorem bit_tb {t m : Nat} (h : t < 31) (hm : m < 2 ^ 31) : sp_bit (nI m) t = 0 ↔ m.testBit t = false := by
  rw [bit_n h hm, show (0 : Int32) = nI 0 from rfl, nI_eq (by omega) (by omega), Nat.testBit_eq_decide_div_mod_eq]
  simp
theorem or_tb (m t j : Nat) : (m ||| 2 ^ t).testBit j = (m.testBit j || decide (t = j)) := by
  rw [Nat.testBit_or, Nat.testBit_two_pow]
def isB (σ : St) (b : Nat) (B : Bd) : Prop := σ b 0 = nI (bP B) ∧ (∀ k, k < bP B → σ (b + 1) k = bso B k ∧ σ (b + 2) k = ble B k ∧ σ (b + 3) k = nI (bsi B k) ∧ σ (b + 4) k = nI (bwh B k)) ∧ σ b 5 = nI (bN B) ∧ (∀ i, i < bN B → σ (b + 5) i = nI (bnb B i) ∧ σ (b + 6) i = nI (bnp B i)) ∧ (∀ t, t < 24 → ∃ m : Nat, m < 2 ^ 16 ∧ σ (b + 7) t = nI m ∧ ∀ i, m.testBit i = decide (i < bN B ∧ bnb B i = t)) ∧ σ b 9 = bbag B ∧ σ b 10 = nI (bE B) ∧ (∀ e, e < bE B → σ (b + 8) e = nI (bkd B e) ∧ σ (b + 9) e = nI (bbt B e)) ∧ σ b 13 = bg B ∧ σ b 14 = bod B
/-- only the run at cell r, and its rows, have changed -/
def cFr (r : Nat) (σ0 σ : St) : Prop := ∀ k : Nat, (k < r ∨ r + 8 < k) → σ k = σ0 k
theorem cFr.rf {r : Nat} {σ : St} : cFr r σ σ := fun _ _ => rfl
theorem cFr.tr {r : Nat} {a b c : St} (h : cFr r a b) (g : cFr r b c) : cFr r a c := fun k q => (g k q).trans (h k q)
theorem cFr.kB {r b : Nat} {x y : St} {B : Bd} (hb : b + 9 < r) (h : cFr r x y) (g : isB x b B) : isB y b B := by
  unfold isB
  rw [h b (by omega), h (b + 1) (by omega), h (b + 2) (by omega), h (b + 3) (by omega), h (b + 4) (by omega), h (b + 5) (by omega), h (b + 6) (by omega), h (b + 7) (by omega), h (b + 8) (by omega), h (b + 9) (by omega)]
  exact g
theorem fill_loop {a n : Nat} {v : Int32} {σ0 : St} {Q : Unit → St → Prop} (hn : n ≤ 60) (E : St → Option (Unit × St)) (hE : ∀ σ, (∀ k, k ≠ a → σ k = σ0 k) → (∀ j, j < n → σ a j = v) → Ok (E σ) Q) : ∀ (k i : Nat), i + k = n → ∀ f, k < f → ∀ σ, (∀ k, k ≠ a → σ k = σ0 k) → (∀ j, j < i → σ a j = v) → Ok (mj7_fill_53178_L5 n a E f v (nI i) (nI n) σ) Q := by
  intro k
  induction k with
  | zero =>
    intro i hi f hf σ h1 h2
    obtain ⟨f, rfl⟩ : ∃ m, f = m + 1 := ⟨f - 1, by omega⟩
    show Ok (mj7_fill_53178_L5b _ _ _ _ _ _ _ σ) Q
    unfold mj7_fill_53178_L5b
    rw [if_pos (nI_le (by omega) (by omega))]
    rw [show i = n by omega] at h2
    exact hE σ h1 h2
  | succ k ih =>
    intro i hi f hf σ h1 h2
    obtain ⟨f, rfl⟩ : ∃ m, f = m + 1 := ⟨f - 1, by omega⟩
    show Ok (mj7_fill_53178_L5b _ _ _ _ _ _ _ σ) Q
    unfold mj7_fill_53178_L5b
    rw [if_neg (nI_ge (by omega) (by omega))]
    simp (disch := omega) only [nI_1, gd_nI, sy_ix, ix_nI, lt_eq]
    refine ih (i + 1) (by omega) f (by omega) _ (fun q hq => ?_) (fun j hj => ?_)
    · rw [sf_n hq]; exact h1 q hq
    · by_cases e : j = i
      · subst e; rw [sf_ss]
      · rw [sf_sn e]; exact h2 j (by omega)
theorem fill_sp {a n : Nat} {v : Int32} {σ : St} (hn : n ≤ 60) : Ok (mj7_fill_53178 a n v σ) (fun _ σ' => (∀ k, k ≠ a → σ' k = σ k) ∧ ∀ j, j < n → σ' a j = v) := by
  unfold mj7_fill_53178
  exact fill_loop hn _ (fun σ1 h1 h2 => ok_some ⟨h1, h2⟩) n 0 (by omega) sy_FU (by show _ < 1000; omega) σ (fun _ _ => rfl) (fun j hj => by omega)
/-- the run's cells behind so much of the band -/
def cRel (σ : St) (r t : Nat) (x : Rs) : Prop := σ r 15 = nI (rSeat x) ∧ σ r 16 = rHold x ∧ σ r 11 = rStol x ∧ σ r 10 = rLeak x ∧ σ r 7 = rSnd x ∧ σ r 8 = rBit x ∧ σ r 9 = rMiss x ∧ (∀ k, k < 11 → σ (r + 5) k = rSnds x k ∧ σ (r + 6) k = rTook x k ∧ σ (r + 7) k = rGoes x k) ∧ (∀ j, j < 16 → σ (r + 4) j = rSt x j) ∧ ∀ b, b < t → σ (r + 1) b = rSB x b ∧ σ (r + 2) b = rHB x b ∧ σ (r + 3) b = rLB x b
/-- the events of the run, as gathered: those ahead of e -/
def cEv (σ : St) (r : Nat) (B : Bd) (e : Nat) (od : Int32) : Prop := (∀ t, t < 24 → σ (r + 8) t = nI (sp_cn B 0 t e)) ∧ (∃ m : Nat, m < 2 ^ 24 ∧ σ r 13 = nI m ∧ ∀ t, t < 24 → (m.testBit t = true ↔ 0 < sp_cn B 1 t e)) ∧ ∃ m : Nat, m < 2 ^ 24 ∧ σ r 14 = nI m ∧ ∀ t, t < 24 → (m.testBit t = true ↔ (0 < sp_cn B 2 t e ∨ od = nI t))
theorem m3_clear_sp {σ : St} {r b : Nat} {B : Bd} (hb : b + 9 < r) (hB : isB σ b B) : Ok (m3_clear r b σ) (fun _ σ' => cFr r σ σ' ∧ cRel σ' r 0 (sp_init B) ∧ cEv σ' r B 0 (-1)) := by
  unfold m3_clear
  refine ok_bd (fill_sp (by omega)) (fun _ σ1 h1 => ?_)
  refine ok_bd (fill_sp (by omega)) (fun _ σ2 h2 => ?_)
  refine ok_bd (fill_sp (by omega)) (fun _ σ3 h3 => ?_)
  refine ok_bd (fill_sp (by omega)) (fun _ σ4 h4 => ?_)
  refine ok_bd (fill_sp (by omega)) (fun _ σ5 h5 => ?_)
  simp (disch := omega) only [lt_eq, sf_n]
  have e9 : σ5 b 9 = bbag B := by
    rw [h5.1 b (by omega), h4.1 b (by omega), h3.1 b (by omega), h2.1 b (by omega), h1.1 b (by omega)]
    exact hB.2.2.2.2.2.1
  rw [e9]
  refine ok_some ⟨fun q hq => ?_, ⟨?_, ?_, ?_, ?_, ?_, ?_, ?_, ?_, ?_, ?_⟩, ?_, ?_, ?_⟩
  · simp (disch := omega) only [sf_n]
    rw [h5.1 q (by omega), h4.1 q (by omega), h3.1 q (by omega), h2.1 q (by omega), h1.1 q (by omega)]
  · simp only [sf_at]; simp; rfl
  · simp only [sf_at]; simp; rfl
  · simp only [sf_at]; simp; rfl
  · simp only [sf_at]; simp; rfl
  · simp only [sf_at]; simp; rfl
  · simp only [sf_at]; simp; rfl
  · simp only [sf_at]; simp; rfl
  · intro k hk
    simp (disch := omega) only [sf_n]
    rw [h5.1 (r + 5) (by omega), h4.1 (r + 5) (by omega), h3.1 (r + 5) (by omega), h5.1 (r + 6) (by omega), h4.1 (r + 6) (by omega), h5.1 (r + 7) (by omega)]
    exact ⟨h2.2 k hk, h3.2 k hk, h4.2 k hk⟩
  · intro j hj
    simp (disch := omega) only [sf_n]
    rw [h5.1 (r + 4) (by omega), h4.1 (r + 4) (by omega), h3.1 (r + 4) (by omega), h2.1 (r + 4) (by omega)]
    exact h1.2 j hj
  · intro t ht
    omega
  · intro t ht
    simp (disch := omega) only [sf_n]
    exact h5.2 t ht
  · refine ⟨0, by omega, ?_, fun t _ => ?_⟩
    · simp only [sf_at]; simp; rfl
    · simp [sp_cn]
  · refine ⟨0, by omega, ?_, fun t ht => ?_⟩
    · simp only [sf_at]; simp; rfl
    · have : ¬ ((-1 : Int32) = nI t) := fun q => by
        have := congrArg Int32.toInt q
        rw [nI_toInt (by omega)] at this
        have e : (-1 : Int32).toInt = -1 := by decide
        omega
      simp [sp_cn, this]
theorem or_lt {m t : Nat} (hm : m < 2 ^ 24) (ht : t < 24) : m ||| 2 ^ t < 2 ^ 24 := Nat.or_lt_two_pow hm (Nat.pow_lt_pow_right (by omega) ht)
/-- one event more is gathered -/
theorem m3_gather_sp {σ : St} {r e : Nat} {B : Bd} {od : Int32} (hk : bkd B e < 3) (ht : bbt B e < 24) (hbit : sp_bit (bg B) e = 0) (h : cEv σ r B e od) : Ok (m3_gather r (nI (bkd B e)) (nI (bbt B e)) σ) (fun _ σ' => (∀ k, k ≠ r → k ≠ r + 8 → σ' k = σ k) ∧ (∀ j, j ≠ 13 → j ≠ 14 → σ' r j = σ r j) ∧ cEv σ' r B (e + 1) od) := by
  obtain ⟨h1, ⟨m1, a1, a2, a3⟩, ⟨m2, b1, b2, b3⟩⟩ := h
  have hcn : ∀ q t, sp_cn B q t (e + 1) = sp_cn B q t e + (if bkd B e = q ∧ bbt B e = t ∧ sp_bit (bg B) e = 0 then 1 else 0) := fun _ _ => rfl
  have hne : ∀ q t, ¬ bkd B e = q → sp_cn B q t (e + 1) = sp_cn B q t e := fun q t c => by rw [hcn, if_neg (fun z => c z.1)]; rfl
  unfold m3_gather
  by_cases c0 : bkd B e = 0
  · rw [if_pos (by rw [c0]; rfl)]
    simp (disch := omega) only [gd_nI, sy_ix, ix_nI, lt_eq]
    refine ok_some ⟨fun k _ q => sf_n q, fun j _ _ => by rw [sf_n (by omega)], fun t ht2 => ?_, ⟨m1, a1, ?_, fun t ht2 => ?_⟩, ⟨m2, b1, ?_, fun t ht2 => ?_⟩⟩
    · rw [sf_at, hcn]
      by_cases e1 : t = bbt B e
      · rw [if_pos ⟨rfl, e1⟩, if_pos ⟨c0, e1.symm, hbit⟩, ← e1, h1 t ht2, nI_1]
      · rw [if_neg (fun q => e1 q.2), if_neg (fun q => e1 q.2.1.symm), h1 t ht2]; rfl
    · show sy_sf _ _ _ _ r 13 = _
      rw [sf_n (by omega)]; exact a2
    · rw [hne 1 t (by omega)]; exact a3 t ht2
    · show sy_sf _ _ _ _ r 14 = _
      rw [sf_n (by omega)]; exact b2
    · rw [hne 2 t (by omega)]; exact b3 t ht2
  · rw [if_neg (fun q => c0 ((nI_e0 (by omega)).mp q))]
    by_cases c1 : bkd B e = 1
    · rw [if_pos (by rw [c1]; rfl), lt_eq, a2, sh_1 (by omega), nI_or]
      refine ok_some ⟨fun k q _ => sf_n q, fun j q _ => sf_sn q, fun t ht2 => ?_, ⟨m1 ||| 2 ^ bbt B e, or_lt a1 ht, sf_ss _ _ _ _, fun t ht2 => ?_⟩, ⟨m2, b1, ?_, fun t ht2 => ?_⟩⟩
      · show sy_sf _ _ _ _ (r + 8) t = _
        rw [sf_n (by omega), hne 0 t c0]; exact h1 t ht2
      · rw [or_tb, Bool.or_eq_true, a3 t ht2, hcn, decide_eq_true_eq]
        by_cases e1 : bbt B e = t
        · rw [if_pos ⟨c1, e1, hbit⟩]
          exact ⟨fun _ => by omega, fun _ => Or.inr e1⟩
        · rw [if_neg (fun q => e1 q.2.1)]
          exact ⟨fun q => by rcases q with q | q; exact q; exact absurd q e1, fun q => Or.inl q⟩
      · show sy_sf _ _ _ _ r 14 = _
        rw [sf_sn (by omega)]; exact b2
      · rw [hne 2 t (by omega)]; exact b3 t ht2
    · have c2 : bkd B e = 2 := by omega
      rw [if_neg (fun q => c1 ((nI_e1 (by omega)).mp q)), lt_eq, b2, sh_1 (by omega), nI_or]
      refine ok_some ⟨fun k q _ => sf_n q, fun j _ q => sf_sn q, fun t ht2 => ?_, ⟨m1, a1, ?_, fun t ht2 => ?_⟩, ⟨m2 ||| 2 ^ bbt B e, or_lt b1 ht, sf_ss _ _ _ _, fun t ht2 => ?_⟩⟩
      · show sy_sf _ _ _ _ (r + 8) t = _
        rw [sf_n (by omega), hne 0 t c0]; exact h1 t ht2
      · show sy_sf _ _ _ _ r 13 = _
        rw [sf_sn (by omega)]; exact a2
      · rw [hne 1 t c1]; exact a3 t ht2
      · rw [or_tb, Bool.or_eq_true, b3 t ht2, hcn, decide_eq_true_eq]
        by_cases e1 : bbt B e = t
        · rw [if_pos ⟨c2, e1, hbit⟩]
          exact ⟨fun _ => Or.inl (by omega), fun _ => Or.inr e1⟩
        · rw [if_neg (fun q => e1 q.2.1)]
          exact ⟨fun q => by rcases q with (q | q) | q; exact Or.inl q; exact Or.inr q; exact absurd q e1, fun q => Or.inl q⟩
/-- gathering leaves the run's other cells -/
def gFr (r : Nat) (σ0 σ : St) : Prop := (∀ k, k ≠ r → k ≠ r + 8 → σ k = σ0 k) ∧ ∀ j, j ≠ 13 → j ≠ 14 → σ r j = σ0 r j
theorem gFr.rf {r : Nat} {σ : St} : gFr r σ σ := ⟨fun _ _ _ => rfl, fun _ _ _ => rfl⟩
theorem gFr.tr {r : Nat} {a b c : St} (h : gFr r a b) (g : gFr r b c) : gFr r a c := ⟨fun k p q => (g.1 k p q).trans (h.1 k p q), fun j p q => (g.2 j p q).trans (h.2 j p q)⟩
theorem gFr.c {r : Nat} {a b : St} (h : gFr r a b) : cFr r a b := fun k q => h.1 k (by omega) (by omega)
theorem gFr.rel {r t : Nat} {a b : St} {x : Rs} (h : gFr r a b) (g : cRel a r t x) : cRel b r t x := by
  unfold cRel
  rw [h.2 15 (by omega) (by omega), h.2 16 (by omega) (by omega), h.2 11 (by omega) (by omega), h.2 10 (by omega) (by omega), h.2 7 (by omega) (by omega), h.2 8 (by omega) (by omega), h.2 9 (by omega) (by omega), h.1 (r + 1) (by omega) (by omega), h.1 (r + 2) (by omega) (by omega), h.1 (r + 3) (by omega) (by omega), h.1 (r + 4) (by omega) (by omega), h.1 (r + 5) (by omega) (by omega), h.1 (r + 6) (by omega) (by omega), h.1 (r + 7) (by omega) (by omega)]
  exact g
theorem m3_gatherEvents_loop {σ0 : St} {r b : Nat} {B : Bd} {Q : Unit → St → Prop} (hb : b + 9 < r) (hB : isB σ0 b B) (ho : okB B) (E : St → Option (Unit × St)) (hE : ∀ σ, gFr r σ0 σ → cEv σ r B (bE B) (-1) → Ok (E σ) Q) : ∀ (k e : Nat), e + k = bE B → ∀ n, k < n → ∀ σ, gFr r σ0 σ → cEv σ r B e (-1) → Ok (m3_gatherEvents_L2 r b E n (nI e) σ) Q := by
  have h8 := ho.2.2.1
  intro k
  induction k with
  | zero =>
    intro e he n hn σ hF hV
    obtain ⟨n, rfl⟩ : ∃ m, n = m + 1 := ⟨n - 1, by omega⟩
    have hB1 := hF.c.kB hb hB
    show Ok (m3_gatherEvents_L2b _ _ _ _ _ σ) Q
    unfold m3_gatherEvents_L2b
    rw [hB1.2.2.2.2.2.2.1, if_pos (nI_le (by omega) (by omega))]
    rw [show e = bE B by omega] at hV
    exact hE σ hF hV
  | succ k ih =>
    intro e he n hn σ hF hV
    obtain ⟨n, rfl⟩ : ∃ m, n = m + 1 := ⟨n - 1, by omega⟩
    have hB1 := hF.c.kB hb hB
    obtain ⟨p1, p2⟩ := hB1.2.2.2.2.2.2.2.1 e (by omega)
    obtain ⟨o1, o2⟩ := ho.2.2.2.2.2.2.2.1 e (by omega)
    show Ok (m3_gatherEvents_L2b _ _ _ _ _ σ) Q
    unfold m3_gatherEvents_L2b
    rw [hB1.2.2.2.2.2.2.1, if_neg (nI_ge (by omega) (by omega)), hB1.2.2.2.2.2.2.2.2.1]
    simp (disch := omega) only [nI_1, gd_nI, sy_ix, ix_nI, p1, p2]
    by_cases c : sp_bit (bg B) e = 0
    · rw [if_pos c]
      exact ok_bd (m3_gather_sp o1 o2 c hV) (fun _ σ1 h => ih (e + 1) (by omega) n (by omega) σ1 (hF.tr ⟨h.1, h.2.1⟩) h.2.2)
    · rw [if_neg c]
      refine ih (e + 1) (by omega) n (by omega) σ hF ?_
      have hne : ∀ q t, sp_cn B q t (e + 1) = sp_cn B q t e := fun q t => by
        show sp_cn B q t e + (if bkd B e = q ∧ bbt B e = t ∧ sp_bit (bg B) e = 0 then 1 else 0) = _
        rw [if_neg (fun z => c z.2.2)]; rfl
      unfold cEv
      simp only [hne]
      exact hV
theorem m3_gatherEvents_sp {σ : St} {r b : Nat} {B : Bd} (hb : b + 9 < r) (hB : isB σ b B) (ho : okB B) (hV : cEv σ r B 0 (-1)) : Ok (m3_gatherEvents r b σ) (fun _ σ' => gFr r σ σ' ∧ cEv σ' r B (bE B) (bod B)) := by
  have h8 := ho.2.2.1
  unfold m3_gatherEvents
  refine m3_gatherEvents_loop hb hB ho _ (fun σ1 hF h => ?_) (bE B) 0 (by omega) sy_FU (by show _ < 1000; omega) σ gFr.rf hV
  have hB1 := hF.c.kB hb hB
  show Ok (if σ1 b 14 = -1 then _ else _) _
  rw [hB1.2.2.2.2.2.2.2.2.2]
  rcases ho.2.2.2.2.2.2.2.2 with c | ⟨t0, c1, c2⟩
  · rw [if_pos c]
    refine ok_some ⟨hF, ?_⟩
    rw [c]; exact h
  · have hm1 : ¬ (nI t0 = -1) := fun q => by
      have := congrArg Int32.toInt q
      rw [nI_toInt (by omega)] at this
      have e : (-1 : Int32).toInt = -1 := by decide
      omega
    rw [c2, if_neg hm1]
    obtain ⟨h1, ⟨m1, a1, a2, a3⟩, ⟨m2, b1, b2, b3⟩⟩ := h
    unfold m3_gather
    rw [if_neg (by decide), if_neg (by decide), lt_eq, b2, sh_1 (by omega), nI_or, bd_some]
    refine ok_some ⟨hF.tr ⟨fun k q _ => sf_n q, fun j _ q => sf_sn q⟩, fun t ht2 => ?_, ⟨m1, a1, ?_, a3⟩, ⟨m2 ||| 2 ^ t0, or_lt b1 c1, sf_ss _ _ _ _, fun t ht2 => ?_⟩⟩
    · show sy_sf _ _ _ _ (r + 8) t = _
      rw [sf_n (by omega)]; exact h1 t ht2
    · show sy_sf _ _ _ _ r 13 = _
      rw [sf_sn (by omega)]; exact a2
    · have hm : ¬ ((-1 : Int32) = nI t) := fun q => by
        have := congrArg Int32.toInt q
        rw [nI_toInt (by omega)] at this
        have e : (-1 : Int32).toInt = -1 := by decide
        omega
      rw [or_tb, Bool.or_eq_true, b3 t ht2, decide_eq_true_eq, nI_eq (by omega) (by omega)]
      exact ⟨fun q => by rcases q with (q | q) | q; exact Or.inl q; exact absurd q hm; exact Or.inr q, fun q => by rcases q with q | q; exact Or.inl (Or.inl q); exact Or.inr q⟩
theorem m3_steal_sp {σ : St} {r t : Nat} {B : Bd} {x : Rs} (h : cRel σ r t x) : Ok (m3_steal r (nI (sp_cnt B 0 t)) σ) (fun _ σ' => (∀ k, k ≠ r → σ' k = σ k) ∧ (∀ j, j ≠ 16 → j ≠ 11 → σ' r j = σ r j) ∧ cRel σ' r t (sp_steal B t x)) := by
  obtain ⟨h1, h2, h3, h4, h5, h6, h7, h8, h9, h10⟩ := h
  unfold m3_steal
  simp (disch := omega) only [lt_eq, sf_sn]
  rw [h2, h3]
  refine ok_some ⟨fun k q => by rw [sf_n q, sf_n q], fun j q q2 => by rw [sf_sn q2, sf_sn q], ?_, ?_, ?_, ?_, ?_, ?_, ?_, ?_, ?_, ?_⟩
  · simp only [sf_at]; simp; exact h1
  · simp only [sf_at]; simp; rfl
  · simp only [sf_at]; simp; rfl
  · simp only [sf_at]; simp; exact h4
  · simp only [sf_at]; simp; exact h5
  · simp only [sf_at]; simp; exact h6
  · simp only [sf_at]; simp; exact h7
  · simp only [sf_at]; simp; exact h8
  · simp only [sf_at]; simp; exact h9
  · simp only [sf_at]; simp; exact h10
theorem abs_n {a b : Nat} (ha : a < 2 ^ 30) (hb : b < 2 ^ 30) : sy_abs (nI a - nI b) = nI (if b ≤ a then a - b else b - a) := by
  unfold sy_abs
  by_cases h : b ≤ a
  · rw [pk_sub h, if_pos (nI_pos' (by omega)), if_pos h]
  · have e : 0 - (nI a - nI b) = nI (b - a) := by
      rw [← pk_sub (show a ≤ b by omega), Int32.zero_sub, Int32.neg_sub]
    rw [if_neg (fun q => by have g1 := i32_le.mp q; have g2 := i32_lt.mp (pk_sneg (a := a) hb (by omega)); omega), if_neg h, e]
theorem m3_J66 {σ : St} {r t i k : Nat} {B : Bd} {x : Rs} {aw re : Int32} (hi : i < 16) (hk : k < 11) (hb : bnp B i = k) (c : Prop) [Decidable c] (hc : re < aw ↔ ¬ c) (h : cRel σ r t x) : Ok (m3_soundOne_J66 r (nI i) (nI k) aw re (sp_nd (bso B k)) σ) (fun _ σ' => (∀ q, (q < r ∨ r + 7 < q) → σ' q = σ q) ∧ (∀ j, 13 ≤ j → j ≤ 14 → σ' r j = σ r j) ∧ cRel σ' r t (if c ∧ sp_nd (bso B k) ≤ rHold x then sp_snd B i x else sp_ms x)) := by
  obtain ⟨h1, h2, h3, h4, h5, h6, h7, h8, h9, h10⟩ := h
  have miss : ¬ (c ∧ sp_nd (bso B k) ≤ rHold x) → Ok (sy_lt (sy_sf σ r 9 (σ r 9 + 1)) (fun σ17 => some ((), σ17))) (fun _ σ' => (∀ q, (q < r ∨ r + 7 < q) → σ' q = σ q) ∧ (∀ j, 13 ≤ j → j ≤ 14 → σ' r j = σ r j) ∧ cRel σ' r t (if c ∧ sp_nd (bso B k) ≤ rHold x then sp_snd B i x else sp_ms x)) := by
    intro hn
    rw [if_neg hn, lt_eq, h7]
    refine ok_some ⟨fun q hq => sf_n (by omega), fun j _ _ => sf_sn (by omega), ?_, ?_, ?_, ?_, ?_, ?_, ?_, ?_, ?_, ?_⟩
    · simp only [sf_at]; simp; exact h1
    · simp only [sf_at]; simp; exact h2
    · simp only [sf_at]; simp; exact h3
    · simp only [sf_at]; simp; exact h4
    · simp only [sf_at]; simp; exact h5
    · simp only [sf_at]; simp; exact h6
    · simp only [sf_at]; simp; rfl
    · simp only [sf_at]; simp; exact h8
    · simp only [sf_at]; simp; exact h9
    · simp only [sf_at]; simp; exact h10
  unfold m3_soundOne_J66
  by_cases c1 : re < aw
  · rw [if_pos c1]
    exact miss (fun q => hc.mp c1 q.1)
  · have hcc : c := by
      by_cases z : c
      · exact z
      · exact absurd (hc.mpr z) c1
    rw [if_neg c1, h2]
    by_cases c2 : sp_nd (bso B k) ≤ rHold x
    · rw [if_pos c2, if_pos ⟨hcc, c2⟩, dv_ne (by decide), lt_eq, show sp_nd (bso B k) - sp_nd (bso B k) / 2 = sp_tk (bso B k) from rfl]
      subst hb
      have h8k := h8 (bnp B i) hk
      have key : ∀ v : Int32, v = (if 10 ≤ rHold x - sp_tk (bso B (bnp B i)) then 2 else 1) → Ok (m3_soundOne_J134 r (nI i) (nI (bnp B i)) (sp_tk (bso B (bnp B i))) v (nI i) (r + 4) (sy_sf σ r 16 (rHold x - sp_tk (bso B (bnp B i))))) (fun _ σ' => (∀ q, (q < r ∨ r + 7 < q) → σ' q = σ q) ∧ (∀ j, 13 ≤ j → j ≤ 14 → σ' r j = σ r j) ∧ cRel σ' r t (sp_snd B i x)) := by
        intro v hv
        unfold m3_soundOne_J134
        simp (disch := omega) only [lt_eq, gd_nI, sy_ix, ix_nI, sf_n, sf_sn, sf_ss]
        rw [h5, h6]
        refine ok_some ⟨fun q hq => ?_, fun j _ _ => ?_, ?_, ?_, ?_, ?_, ?_, ?_, ?_, ?_, ?_, ?_⟩
        · simp (disch := omega) only [sf_n]
        · simp (disch := omega) only [sf_n, sf_sn]
        · simp only [sf_at]; simp; exact h1
        · simp only [sf_at]; simp; rfl
        · simp only [sf_at]; simp; exact h3
        · simp only [sf_at]; simp; exact h4
        · simp only [sf_at]; simp; rfl
        · simp only [sf_at]; simp; rfl
        · simp only [sf_at]; simp; exact h7
        · intro q hq
          obtain ⟨a1, a2, a3⟩ := h8 q hq
          simp only [sf_at]; simp
          refine ⟨?_, ?_, a3⟩
          · show _ = upd (rSnds x) (bnp B i) (rSnds x (bnp B i) + 1) q
            unfold upd
            rw [← h8k.1]
            split
            · rfl
            · exact a1
          · show _ = upd (rTook x) (bnp B i) (rTook x (bnp B i) + sp_tk (bso B (bnp B i))) q
            unfold upd
            rw [← h8k.2.1]
            split
            · rfl
            · exact a2
        · intro j hj
          simp only [sf_at]; simp
          show _ = upd (rSt x) i (if 10 ≤ rHold x - sp_tk (bso B (bnp B i)) then 2 else 1) j
          unfold upd
          split
          · exact hv
          · exact h9 j hj
        · intro b hb
          simp only [sf_at]; simp
          exact h10 b hb
      rw [lt_eq, sf_ss]
      by_cases c3 : 10 ≤ rHold x - sp_tk (bso B (bnp B i))
      · rw [if_pos c3]
        exact key 2 (by rw [if_pos c3])
      · rw [if_neg c3]
        exact key 1 (by rw [if_neg c3])
    · rw [if_neg c2]
      exact miss (fun q => c2 q.2)
theorem m3_soundOne_sp {σ : St} {r b t i : Nat} {B : Bd} {x : Rs} (hB : isB σ b B) (ho : okB B) (hi : i < bN B) (hin : sp_in B x) (h : cRel σ r t x) : Ok (m3_soundOne r b (nI i) (nI (bnp B i)) σ) (fun _ σ' => (∀ q, (q < r ∨ r + 7 < q) → σ' q = σ q) ∧ (∀ j, 13 ≤ j → j ≤ 14 → σ' r j = σ r j) ∧ cRel σ' r t (sp_blow B i x)) := by
  have hN := ho.2.1
  have hP := ho.1
  obtain ⟨o1, o2⟩ := ho.2.2.2.2.2.2.1 i hi
  unfold m3_soundOne sp_blow
  rw [hB.1]
  by_cases c : bnp B i < bP B
  · rw [if_pos (nI_lt c (by omega)), if_pos c]
    obtain ⟨p1, p2, p3, p4⟩ := hB.2.1 (bnp B i) c
    have hs := ho.2.2.2.1 (bnp B i) c
    have hse : rSeat x < 11 := by rcases hin with a | a <;> omega
    simp (disch := omega) only [gd_nI, sy_ix, ix_nI, lt_eq, p1, p3]
    rw [h.1, abs_n (by omega) (by omega)]
    have key : ∀ re : Int32, re = (if bso B (bnp B i) = 2 then 1 else 0) → Ok (m3_soundOne_J44 r (nI i) (nI (bnp B i)) (bso B (bnp B i)) (nI (if rSeat x ≤ bsi B (bnp B i) then bsi B (bnp B i) - rSeat x else rSeat x - bsi B (bnp B i))) re σ) (fun _ σ' => (∀ q, (q < r ∨ r + 7 < q) → σ' q = σ q) ∧ (∀ j, 13 ≤ j → j ≤ 14 → σ' r j = σ r j) ∧ cRel σ' r t (if sp_nr B (bnp B i) (rSeat x) ∧ sp_nd (bso B (bnp B i)) ≤ rHold x then sp_snd B i x else sp_ms x)) := by
      intro re hre
      have hc : re < nI (if rSeat x ≤ bsi B (bnp B i) then bsi B (bnp B i) - rSeat x else rSeat x - bsi B (bnp B i)) ↔ ¬ sp_nr B (bnp B i) (rSeat x) := by
        rw [hre]
        by_cases c2 : bso B (bnp B i) = 2
        · rw [if_pos c2, show (1 : Int32) = nI 1 from rfl, nI_ltI (by omega) (by split <;> omega)]
          constructor
          · intro q z
            rcases z with z | z
            · rw [z] at q; simp at q
            · split at q <;> omega
          · intro q
            have q1 : ¬ bsi B (bnp B i) = rSeat x := fun z => q (Or.inl z)
            have q2 : ¬ (bsi B (bnp B i) = rSeat x + 1 ∨ rSeat x = bsi B (bnp B i) + 1) := fun z => q (Or.inr ⟨c2, z⟩)
            split <;> omega
        · rw [if_neg c2, show (0 : Int32) = nI 0 from rfl, nI_ltI (by omega) (by split <;> omega)]
          constructor
          · intro q z
            rcases z with z | z
            · rw [z] at q; simp at q
            · exact c2 z.1
          · intro q
            have q1 : ¬ bsi B (bnp B i) = rSeat x := fun z => q (Or.inl z)
            split <;> omega
      have key2 := m3_J66 (i := i) (k := bnp B i) (B := B) (by omega) (by omega) rfl (sp_nr B (bnp B i) (rSeat x)) hc h
      unfold m3_soundOne_J44
      rcases sp_nd_tk (bso B (bnp B i)) with ⟨a, d⟩ | ⟨a, a2, d⟩ | ⟨a, a2, d⟩
      · rw [if_pos a]
        rw [d] at key2 ⊢
        exact key2
      · rw [if_neg a, if_pos a2]
        rw [d] at key2 ⊢
        exact key2
      · rw [if_neg a, if_neg a2]
        rw [d] at key2 ⊢
        exact key2
    by_cases c2 : bso B (bnp B i) = 2
    · rw [if_pos c2]
      exact key 1 (by rw [if_pos c2])
    · rw [if_neg c2]
      exact key 0 (by rw [if_neg c2])
  · rw [if_neg (nI_nlt (by omega) (by omega)), if_neg c]
    exact ok_some ⟨fun _ _ => rfl, fun _ _ _ => rfl, h⟩
theorem m3_passOn_sp {σ : St} {r b t : Nat} {B : Bd} {x : Rs} (hb : b + 9 < r) (hB : isB σ b B) (ho : okB B) (hin : sp_in B x) (hk : ¬ (0 < sp_cnt B 2 t ∨ bod B = nI t)) (h : cRel σ r t x) : Ok (m3_passOn r b (b01 (0 < sp_cnt B 1 t)) σ) (fun g σ' => g = sp_lost B t x ∧ (∀ q, (q < r ∨ r + 7 < q) → σ' q = σ q) ∧ (∀ j, 13 ≤ j → j ≤ 14 → σ' r j = σ r j) ∧ cRel σ' r t (sp_pass B t x)) := by
  have hP := ho.1
  obtain ⟨h1, h2, h3, h4, h5, h6, h7, h8, h9, h10⟩ := id h
  unfold m3_passOn
  rw [hB.1]
  by_cases c0 : bP B = 0
  · rw [if_pos ((nI_e0 (by omega)).mpr c0)]
    have hkk : sp_kept B t := Or.inl c0
    refine ok_some ⟨by unfold sp_lost; rw [if_pos hkk], fun _ _ => rfl, fun _ _ _ => rfl, ?_⟩
    unfold sp_pass
    rw [if_pos hkk]
    exact h
  · rw [if_neg (fun q => c0 ((nI_e0 (by omega)).mp q))]
    have hnk : ¬ sp_kept B t := by
      rintro (q | q)
      · exact c0 q
      · exact hk q
    have hse : rSeat x < bP B := by rcases hin with q | q; exact absurd q.1 c0; exact q
    obtain ⟨-, -, -, p4⟩ := hB.2.1 (rSeat x) hse
    have hw := (ho.2.2.2.2.1 _ hse).1
    obtain ⟨-, q2, -, -⟩ := hB.2.1 (bwh B (rSeat x)) hw
    rw [h1]
    simp (disch := omega) only [gd_nI, sy_ix, ix_nI, lt_eq, p4, q2]
    have hcor : nI (rSeat x) = nI (bP B) - 1 ↔ rSeat x + 1 = bP B := by
      obtain ⟨p, hp⟩ : ∃ p, bP B = p + 1 := ⟨bP B - 1, by omega⟩
      rw [hp, nI_pred, nI_eq (by omega) (by omega)]
      omega
    have h8w := h8 (bwh B (rSeat x)) (by omega)
    have j75 : ∀ y : Int32, sy_min (rHold x) y = sp_lost B t x → Ok (m3_passOn_J75 r (nI (bwh B (rSeat x))) (b01 (rSeat x + 1 = bP B)) y (σ r 16) σ) (fun g σ' => g = sp_lost B t x ∧ (∀ q, (q < r ∨ r + 7 < q) → σ' q = σ q) ∧ (∀ j, 13 ≤ j → j ≤ 14 → σ' r j = σ r j) ∧ cRel σ' r t (sp_pass B t x)) := by
      intro y hy
      unfold m3_passOn_J75
      rw [lt_eq, h2, hy]
      have hpass : sp_pass B t x = sp_go B (sp_lost B t x) x := by unfold sp_pass sp_go; rw [if_neg hnk]
      rw [hpass]
      generalize sp_lost B t x = g
      simp (disch := omega) only [lt_eq, gd_nI, sy_ix, ix_nI, sf_n, sf_sn, b01_0, h4, h1, nI_1]
      have hg : ∀ k, k < 11 → (if k = bwh B (rSeat x) then σ (r + 7) (bwh B (rSeat x)) + g else σ (r + 7) k) = upd (rGoes x) (bwh B (rSeat x)) (rGoes x (bwh B (rSeat x)) + g) k := by
        intro k hk
        unfold upd
        rw [h8w.2.2]
        split
        · rfl
        · exact (h8 k hk).2.2
      have key : ∀ z : Nat, z = (if rSeat x + 1 = bP B then 0 else rSeat x + 1) → Ok (some (g, sy_sf (sy_sf (sy_sf (sy_sf σ r 16 (rHold x - g)) (r + 7) (bwh B (rSeat x)) (σ (r + 7) (bwh B (rSeat x)) + g)) r 10 (rLeak x + g)) r 15 (nI z))) (fun g' σ' => g' = g ∧ (∀ q, (q < r ∨ r + 7 < q) → σ' q = σ q) ∧ (∀ j, 13 ≤ j → j ≤ 14 → σ' r j = σ r j) ∧ cRel σ' r t (sp_go B g x)) := by
        intro z hz
        refine ok_some ⟨rfl, fun q hq => ?_, fun j _ _ => ?_, ?_, ?_, ?_, ?_, ?_, ?_, ?_, ?_, ?_, ?_⟩
        · simp (disch := omega) only [sf_n]
        · simp (disch := omega) only [sf_n, sf_sn]
        · simp only [sf_at]; simp; rw [hz]; rfl
        · simp only [sf_at]; simp; rfl
        · simp only [sf_at]; simp; exact h3
        · simp only [sf_at]; simp; rfl
        · simp only [sf_at]; simp; exact h5
        · simp only [sf_at]; simp; exact h6
        · simp only [sf_at]; simp; exact h7
        · intro k hk
          simp only [sf_at]; simp
          exact ⟨(h8 k hk).1, (h8 k hk).2.1, hg k hk⟩
        · simp only [sf_at]; simp; exact h9
        · simp only [sf_at]; simp; exact h10
      by_cases c : rSeat x + 1 = bP B
      · rw [if_pos c]
        exact key 0 (by rw [if_pos c])
      · rw [if_neg c]
        exact key (rSeat x + 1) (by rw [if_neg c])
    have j55 : ∀ z : Int32, ble B (bwh B (rSeat x)) + z = sp_due B x → Ok (m3_passOn_J55 r (b01 (0 < sp_cnt B 1 t)) (nI (bwh B (rSeat x))) (b01 (rSeat x + 1 = bP B)) z (ble B (bwh B (rSeat x))) σ) (fun g σ' => g = sp_lost B t x ∧ (∀ q, (q < r ∨ r + 7 < q) → σ' q = σ q) ∧ (∀ j, 13 ≤ j → j ≤ 14 → σ' r j = σ r j) ∧ cRel σ' r t (sp_pass B t x)) := by
      intro z hz
      unfold m3_passOn_J55
      rw [lt_eq, hz, b01_0]
      by_cases c3 : 0 < sp_cnt B 1 t
      · rw [if_pos c3]
        exact j75 _ (by unfold sp_lost; rw [if_neg hnk, if_pos c3])
      · rw [if_neg c3]
        exact j75 _ (by unfold sp_lost; rw [if_neg hnk, if_neg c3])
    by_cases c4 : rSeat x + 1 = bP B
    · rw [if_pos (hcor.mpr c4), if_neg (by decide)]
      have := j55 2 (by unfold sp_due; rw [if_pos c4])
      rw [show b01 (rSeat x + 1 = bP B) = 1 from by unfold b01; rw [if_pos c4]] at this
      exact this
    · rw [if_neg (fun q => c4 (hcor.mp q)), if_pos trivial]
      have := j55 0 (by unfold sp_due; rw [if_neg c4])
      rw [show b01 (rSeat x + 1 = bP B) = 0 from by unfold b01; rw [if_neg c4]] at this
      exact this
theorem sp_all_skip {B : Bd} {t : Nat} {r : Rs} : ∀ (k i : Nat), (∀ j, i ≤ j → j < i + k → bnb B j ≠ t) → sp_all B t (i + k) r = sp_all B t i r
  | 0, i, _ => rfl
  | k + 1, i, h => by
    show (if bnb B (i + k) = t then _ else sp_all B t (i + k) r) = _
    rw [if_neg (h (i + k) (by omega) (by omega))]
    exact sp_all_skip k i (fun j a b => h j a (by omega))
/-- within a beat: what of the run stays -/
def pFr (r : Nat) (σ0 σ : St) : Prop := (∀ q, (q < r ∨ r + 7 < q) → σ q = σ0 q) ∧ ∀ j, 13 ≤ j → j ≤ 14 → σ r j = σ0 r j
theorem pFr.rf {r : Nat} {σ : St} : pFr r σ σ := ⟨fun _ _ => rfl, fun _ _ _ => rfl⟩
theorem pFr.tr {r : Nat} {a b c : St} (h : pFr r a b) (g : pFr r b c) : pFr r a c := ⟨fun k p => (g.1 k p).trans (h.1 k p), fun j p q => (g.2 j p q).trans (h.2 j p q)⟩
theorem pFr.c {r : Nat} {a b : St} (h : pFr r a b) : cFr r a b := fun k q => h.1 k (by omega)
theorem pFr.ev {r e : Nat} {a b : St} {B : Bd} {od : Int32} (h : pFr r a b) (g : cEv a r B e od) : cEv b r B e od := by
  unfold cEv
  rw [h.1 (r + 8) (by omega), h.2 13 (by omega) (by omega), h.2 14 (by omega) (by omega)]
  exact g
theorem m3_play_notes {σ0 : St} {r b t m : Nat} {B : Bd} {x0 : Rs} {Q : Unit → St → Prop} (hb : b + 9 < r) (hB : isB σ0 b B) (ho : okB B) (hm : m < 2 ^ 16) (hbit : ∀ i, m.testBit i = decide (i < bN B ∧ bnb B i = t)) (hin : sp_in B x0) (E : Int32 → St → Option (Unit × St)) (hE : ∀ σ, pFr r σ0 σ → cRel σ r t (sp_all B t (bN B) x0) → Ok (E (nI t) σ) Q) :
    ∀ (k i : Nat), i + k = bN B → ∀ n, k < n → ∀ σ, pFr r σ0 σ → cRel σ r t (sp_all B t i x0) → Ok (m3_play_L38 r b E n (nI t) (nI m) (nI i) σ) Q := by
  have hN := ho.2.1
  intro k
  induction k with
  | zero =>
    intro i hi n hn σ hF hR
    obtain ⟨n, rfl⟩ : ∃ m, n = m + 1 := ⟨n - 1, by omega⟩
    have hB1 := hF.c.kB hb hB
    show Ok (m3_play_L38b _ _ _ _ _ _ _ σ) Q
    unfold m3_play_L38b
    rw [hB1.2.2.1, if_pos (nI_le (by omega) (by omega))]
    rw [show i = bN B by omega] at hR
    exact hE σ hF hR
  | succ k ih =>
    intro i hi n hn σ hF hR
    obtain ⟨n, rfl⟩ : ∃ m, n = m + 1 := ⟨n - 1, by omega⟩
    have hB1 := hF.c.kB hb hB
    obtain ⟨p1, p2⟩ := hB1.2.2.2.1 i (by omega)
    have hbi := bit_tb (t := i) (m := m) (by omega) (by omega)
    have hdv : m / 2 ^ i ≤ m := Nat.div_le_self m (2 ^ i)
    show Ok (m3_play_L38b _ _ _ _ _ _ _ σ) Q
    unfold m3_play_L38b
    rw [hB1.2.2.1, if_neg (nI_ge (by omega) (by omega)), shr_n (by omega) (by omega)]
    by_cases c0 : m / 2 ^ i = 0
    · rw [if_pos ((nI_e0 (by omega)).mpr c0)]
      refine hE σ hF ?_
      have hlt : m < 2 ^ i := by
        rcases Nat.lt_or_ge m (2 ^ i) with z | z
        · exact z
        · have := Nat.div_pos z (Nat.two_pow_pos i)
          omega
      have : sp_all B t (bN B) x0 = sp_all B t i x0 := by
        rw [← hi]
        refine sp_all_skip (k + 1) i (fun j a d e => ?_)
        have h1 : m.testBit j = false := Nat.testBit_lt_two_pow (Nat.lt_of_lt_of_le hlt (Nat.pow_le_pow_right (by omega) a))
        rw [hbit j] at h1
        exact absurd ⟨by omega, e⟩ (of_decide_eq_false h1)
      rw [this]
      exact hR
    · rw [if_neg (fun q => c0 ((nI_e0 (by omega)).mp q)), ← shr_n (t := i) (by omega) (by omega)]
      by_cases c1 : bnb B i = t
      · have hb1 : ¬ sp_bit (nI m) i = 0 := fun q => by
          have := hbi.mp q
          rw [hbit i] at this
          exact absurd ⟨by omega, c1⟩ (of_decide_eq_false this)
        rw [if_neg hb1]
        simp (disch := omega) only [nI_1, gd_nI, sy_ix, ix_nI, p2]
        refine ok_bd (m3_soundOne_sp hB1 ho (by omega) (sp_in_all hin) hR) (fun _ σ1 h => ?_)
        refine ih (i + 1) (by omega) n (by omega) σ1 (hF.tr ⟨h.1, h.2.1⟩) ?_
        have e : sp_all B t (i + 1) x0 = sp_blow B i (sp_all B t i x0) := by
          show (if bnb B i = t then _ else _) = _
          rw [if_pos c1]
        rw [e]
        exact h.2.2
      · have hb1 : sp_bit (nI m) i = 0 := hbi.mpr (by rw [hbit i]; exact decide_eq_false (fun q => c1 q.2))
        rw [if_pos hb1, nI_1]
        refine ih (i + 1) (by omega) n (by omega) σ hF ?_
        have e : sp_all B t (i + 1) x0 = sp_all B t i x0 := by
          show (if bnb B i = t then _ else _) = _
          rw [if_neg c1]
        rw [e]
        exact hR
theorem m3_J119 {σ : St} {r b t : Nat} {g : Int32} {x : Rs} {Q : Unit → St → Prop} (ht : t < 24) (h : cRel σ r t x) (K : Int32 → St → Option (Unit × St)) (E : St → Option (Unit × St)) (hK : ∀ σ', pFr r σ σ' → cRel σ' r (t + 1) (sp_note t g x) → Ok (K (nI (t + 1)) σ') Q) : Ok (m3_play_J119 r b K E (nI t) g σ) Q := by
  obtain ⟨h1, h2, h3, h4, h5, h6, h7, h8, h9, h10⟩ := h
  unfold m3_play_J119
  simp (disch := omega) only [lt_eq, gd_nI, sy_ix, ix_nI, sf_n, nI_1]
  rw [h1, h2]
  refine hK _ ⟨fun q hq => ?_, fun j _ _ => ?_⟩ ⟨?_, ?_, ?_, ?_, ?_, ?_, ?_, ?_, ?_, ?_⟩
  · simp (disch := omega) only [sf_n]
  · simp (disch := omega) only [sf_n]
  · simp only [sf_at]; simp; exact h1
  · simp only [sf_at]; simp; exact h2
  · simp only [sf_at]; simp; exact h3
  · simp only [sf_at]; simp; exact h4
  · simp only [sf_at]; simp; exact h5
  · simp only [sf_at]; simp; exact h6
  · simp only [sf_at]; simp; exact h7
  · simp only [sf_at]; simp; exact h8
  · simp only [sf_at]; simp; exact h9
  · intro q hq
    simp only [sf_at]; simp
    refine ⟨?_, ?_, ?_⟩
    · show _ = upd (rSB x) t (nI (rSeat x)) q
      unfold upd
      split
      · rfl
      · exact (h10 q (by omega)).1
    · show _ = upd (rHB x) t (rHold x) q
      unfold upd
      split
      · rfl
      · exact (h10 q (by omega)).2.1
    · show _ = upd (rLB x) t g q
      unfold upd
      split
      · rfl
      · exact (h10 q (by omega)).2.2
theorem m3_play_loop {σ0 : St} {r b : Nat} {B : Bd} {Q : Unit → St → Prop} (hb : b + 9 < r) (hB : isB σ0 b B) (ho : okB B) (E : St → Option (Unit × St)) (hE : ∀ σ, cFr r σ0 σ → cRel σ r 24 (sp_run B 24) → Ok (E σ) Q) : ∀ (k t : Nat), t + k = 24 → ∀ n, k < n → ∀ σ, cFr r σ0 σ → cEv σ r B (bE B) (bod B) → cRel σ r t (sp_run B t) → Ok (m3_play_L12 r b E n (nI t) σ) Q := by
  have hN := ho.2.1
  intro k
  induction k with
  | zero =>
    intro t ht n hn σ hF hV hR
    obtain ⟨n, rfl⟩ : ∃ m, n = m + 1 := ⟨n - 1, by omega⟩
    show Ok (m3_play_L12b _ _ _ _ _ σ) Q
    unfold m3_play_L12b
    rw [show (24 : Int32) = nI 24 from rfl, if_pos (nI_le (by omega) (by omega))]
    rw [show t = 24 by omega] at hR
    exact hE σ hF hR
  | succ k ih =>
    intro t ht n hn σ hF hV hR
    obtain ⟨n, rfl⟩ : ∃ m, n = m + 1 := ⟨n - 1, by omega⟩
    have hB1 := hF.kB hb hB
    show Ok (m3_play_L12b _ _ _ _ _ σ) Q
    unfold m3_play_L12b
    rw [show (24 : Int32) = nI 24 from rfl, if_neg (nI_ge (by omega) (by omega))]
    simp (disch := omega) only [gd_nI, sy_ix, ix_nI]
    rw [hV.1 t (by omega)]
    refine ok_bd (m3_steal_sp (B := B) hR) (fun _ σ1 h1 => ?_)
    have hp1 : pFr r σ σ1 := ⟨fun q hq => h1.1 q (by omega), fun j p q => h1.2.1 j (by omega) (by omega)⟩
    have hB2 := hp1.c.kB hb hB1
    obtain ⟨m, m1, m2, m3⟩ := hB2.2.2.2.2.1 t (by omega)
    rw [lt_eq, m2]
    have hin1 : sp_in B (sp_steal B t (sp_run B t)) := sp_in_run B t
    refine m3_play_notes hb hB2 ho m1 m3 hin1 _ (fun σ2 hp2 hR2 => ?_) (bN B) 0 (by omega) sy_FU (by show _ < 1000; omega) σ1 pFr.rf h1.2.2
    have hp12 := hp1.tr hp2
    have hB3 := hp12.c.kB hb hB1
    have hV3 := hp12.ev hV
    have hin2 := sp_in_all (t := t) (n := bN B) hin1
    have hbeat : sp_run B (t + 1) = sp_note t (sp_lost B t (sp_all B t (bN B) (sp_steal B t (sp_run B t)))) (sp_pass B t (sp_all B t (bN B) (sp_steal B t (sp_run B t)))) := rfl
    have hnext : ∀ σ', pFr r σ2 σ' → cRel σ' r (t + 1) (sp_run B (t + 1)) → Ok (m3_play_L12 r b E n (nI (t + 1)) σ') Q := fun σ' hp hr => ih (t + 1) (by omega) n (by omega) σ' (hF.tr (hp12.tr hp).c) ((hp12.tr hp).ev hV) hr
    rw [hbeat] at hnext
    generalize sp_all B t (bN B) (sp_steal B t (sp_run B t)) = x at hR2 hin2 hnext ⊢
    obtain ⟨-, ⟨f1, f2, f3, f4⟩, ⟨k1, k2, k3, k4⟩⟩ := hV3
    show Ok (m3_play_J83 r b (m3_play_L12 r b E n) E (nI t) σ2) Q
    unfold m3_play_J83
    rw [f3, k3]
    have hkb := bit_tb (t := t) (m := k1) (by omega) (by omega)
    have hfb := bit_tb (t := t) (m := f1) (by omega) (by omega)
    by_cases ck : k1.testBit t = true
    · rw [if_neg (fun q => by have := hkb.mp q; rw [ck] at this; cases this)]
      have hk : sp_kept B t := Or.inr ((k4 t (by omega)).mp ck)
      have e1 : sp_lost B t x = 0 := by unfold sp_lost; rw [if_pos hk]
      have e2 : sp_pass B t x = x := by unfold sp_pass; rw [if_pos hk]
      rw [e1, e2] at hnext
      exact m3_J119 (by omega) hR2 _ _ hnext
    · rw [if_pos (hkb.mpr (by simpa using ck))]
      have hk : ¬ (0 < sp_cnt B 2 t ∨ bod B = nI t) := fun q => ck ((k4 t (by omega)).mpr q)
      have hpass := m3_passOn_sp hb hB3 ho hin2 hk hR2
      have fin : Ok (sy_bd (m3_passOn r b (b01 (0 < sp_cnt B 1 t)) σ2) (fun r22 σ21 => m3_play_J119 r b (m3_play_L12 r b E n) E (nI t) r22 σ21)) Q := by
        refine ok_bd hpass (fun g σ3 h3 => ?_)
        obtain ⟨g1, g2, g3, g4⟩ := h3
        subst g1
        exact m3_J119 (by omega) g4 _ _ (fun σ' hp hr => hnext σ' ((show pFr r σ2 σ3 from ⟨g2, g3⟩).tr hp) hr)
      have f4 : ∀ t, t < 24 → (f1.testBit t = true ↔ 0 < sp_cnt B 1 t) := f4
      by_cases cf : f1.testBit t = true
      · rw [if_neg (fun q => by have := hfb.mp q; rw [cf] at this; cases this)]
        rw [show b01 (0 < sp_cnt B 1 t) = 1 from by unfold b01; rw [if_pos ((f4 t (by omega)).mp cf)]] at fin
        exact fin
      · rw [if_pos (hfb.mpr (by simpa using cf))]
        rw [show b01 (0 < sp_cnt B 1 t) = 0 from by unfold b01; rw [if_neg (fun q => cf ((f4 t (by omega)).mpr q))]] at fin
        exact fin
theorem m3_play_sp {σ : St} {r b : Nat} {B : Bd} (hb : b + 9 < r) (hB : isB σ b B) (ho : okB B) : Ok (m3_play r b σ) (fun _ σ' => cFr r σ σ' ∧ cRel σ' r 24 (sp_run B 24)) := by
  unfold m3_play
  refine ok_bd (m3_clear_sp hb hB) (fun _ σ1 h1 => ?_)
  refine ok_bd (m3_gatherEvents_sp hb (h1.1.kB hb hB) ho h1.2.2) (fun _ σ2 h2 => ?_)
  have hc := h1.1.tr h2.1.c
  exact m3_play_loop hb (hc.kB hb hB) ho _ (fun σ3 hF hR => ok_some ⟨hc.tr hF, hR⟩) 24 0 (by omega) sy_FU (by show _ < 1000; omega) σ2 cFr.rf h2.2 (h2.1.rel h1.2.1)
