/-! ===== what the answers are ===== -/
def sp_setBag (B : Bd) (v : Int32) : Bd := (bP B, bso B, ble B, bsi B, bwh B, bN B, bnb B, bnp B, v, bE B, bkd B, bbt B, bg B, bod B)
def sp_setG (B : Bd) (g : Int32) : Bd := (bP B, bso B, ble B, bsi B, bwh B, bN B, bnb B, bnp B, bbag B, bE B, bkd B, bbt B, g, bod B)
def sp_setOd (B : Bd) (t : Int32) : Bd := (bP B, bso B, ble B, bsi B, bwh B, bN B, bnb B, bnp B, bbag B, bE B, bkd B, bbt B, bg B, t)
def sp_setLe (B : Bd) (k : Nat) (v : Int32) : Bd := (bP B, bso B, upd (ble B) k v, bsi B, bwh B, bN B, bnb B, bnp B, bbag B, bE B, bkd B, bbt B, bg B, bod B)
def sp_setSo (B : Bd) (k : Nat) (v : Int32) : Bd := (bP B, upd (bso B) k v, ble B, bsi B, bwh B, bN B, bnb B, bnp B, bbag B, bE B, bkd B, bbt B, bg B, bod B)
def sp_sw (a b : Nat) : Nat → Nat := fun k => if k = a then b else if k = b then a else k
def sp_setSi (B : Bd) (a b : Nat) : Bd := (bP B, bso B, ble B, sp_sw a b, sp_sw a b, bN B, bnb B, bnp B, bbag B, bE B, bkd B, bbt B, bg B, bod B)
def sp_setNt (B : Bd) (N : Nat) (nb np : Nat → Nat) : Bd := (bP B, bso B, ble B, bsi B, bwh B, N, nb, np, bbag B, bE B, bkd B, bbt B, bg B, bod B)
def sp_sd (B : Bd) : Int32 := rSnd (sp_run B 24)
/-- the least of those by which most is -/
def sp_bst (f : Nat → Int32) (lo : Nat) : Nat → Int32 × Int32
  | 0 => (-1, -1)
  | n + 1 => if (sp_bst f lo n).2 < f (lo + n) then (nI (lo + n), f (lo + n)) else sp_bst f lo n
abbrev Tri : Type := Int32 × Int32 × Int32
def sp_sw1 (f : Nat → Nat → Int32) (a : Nat) (x : Tri) : Nat → Tri
  | 0 => x
  | n + 1 => if (sp_sw1 f a x n).2.2 < f a (a + 1 + n) then (nI a, nI (a + 1 + n), f a (a + 1 + n)) else sp_sw1 f a x n
def sp_sw2 (f : Nat → Nat → Int32) (P : Nat) : Nat → Tri
  | 0 => (-1, -1, -1)
  | a + 1 => sp_sw1 f a (sp_sw2 f P a) (P - (a + 1))
def sp_fill (T : Td) : Int32 × Int32 := sp_bst (fun v => sp_sd (sp_setBag (sp_told T) (nI v))) 1 99
def sp_hold (T : Td) : Int32 × Int32 := sp_bst (fun t => sp_sd (sp_setOd (sp_told T) (nI t))) 0 24
def sp_swap (T : Td) : Tri := sp_sw2 (fun a b => sp_sd (sp_setSi (sp_told T) a b)) (bP (sp_told T)) (bP (sp_told T))
abbrev sp_nm (B : Bd) (g : Int32) : Prop := rMiss (sp_run (sp_setG B g) 24) = 0
/-- the first from lo on, of n, for which p -/
def sp_fi (p : Nat → Prop) [DecidablePred p] (lo : Nat) : Nat → Option Nat
  | 0 => none
  | n + 1 => match sp_fi p lo n with
    | some i => some i
    | none => if p (lo + n) then some (lo + n) else none
def sp_f2 (p : Nat → Nat → Prop) [∀ a, DecidablePred (p a)] (E : Nat) : Nat → Option (Nat × Nat)
  | 0 => none
  | a + 1 => match sp_f2 p E a with
    | some x => some x
    | none => (sp_fi (p a) (a + 1) (E - (a + 1))).map (fun b => (a, b))
def sp_m1 (a : Nat) : Int32 := 1 <<< (nI a &&& 31)
def sp_spare (B : Bd) : Tri := if sp_nm B 0 then (-1, -1, 0) else match sp_fi (fun a => sp_nm B (sp_m1 a)) 0 (bE B) with
  | some a => (nI a, -1, 1)
  | none => match sp_f2 (fun a b => sp_nm B (sp_m1 a ||| sp_m1 b)) (bE B) (bE B) with
    | some x => (nI x.1, nI x.2, 2)
    | none => (-1, -1, -1)
abbrev sp_fit (T : Td) (B : Bd) : Prop := ∀ k, k < tH T → tHn T k < bN B ∧ rSt (sp_run B 24) (tHn T k) = nI (tHi T k)
def sp_bits (p : Nat → Prop) [DecidablePred p] : Nat → Int32
  | 0 => 0
  | n + 1 => if p n then sp_bits p n ||| sp_m1 n else sp_bits p n
def sp_never (T : Td) : Int32 := sp_bits (fun e => sp_fit T (sp_setG (sp_told T) (sp_m1 e))) (tE T)
def sp_was (T : Td) (k w : Nat) : Int32 := if w = 0 then sp_bits (fun v => sp_fit T (sp_setLe (sp_told T) k (nI v))) 4 else sp_bits (fun v => sp_fit T (sp_setSo (sp_told T) k (nI v))) 3
theorem okB_bag {B : Bd} {v : Int32} (h : okB B) : okB (sp_setBag B v) := h
theorem okB_g {B : Bd} {g : Int32} (h : okB B) : okB (sp_setG B g) := h
theorem okB_od {B : Bd} {t : Nat} (ht : t < 24) (h : okB B) : okB (sp_setOd B (nI t)) := ⟨h.1, h.2.1, h.2.2.1, h.2.2.2.1, h.2.2.2.2.1, h.2.2.2.2.2.1, h.2.2.2.2.2.2.1, h.2.2.2.2.2.2.2.1, Or.inr ⟨t, ht, rfl⟩⟩
theorem okB_le {B : Bd} {k : Nat} {v : Int32} (h : okB B) : okB (sp_setLe B k v) := h
theorem okB_so {B : Bd} {k : Nat} {v : Int32} (h : okB B) : okB (sp_setSo B k v) := h
theorem okB_nt {B : Bd} {N : Nat} {nb np : Nat → Nat} (hN : N ≤ 16) (hn : ∀ i, i < N → nb i < 24 ∧ np i < 11) (h : okB B) : okB (sp_setNt B N nb np) := ⟨h.1, hN, h.2.2.1, h.2.2.2.1, h.2.2.2.2.1, h.2.2.2.2.2.1, hn, h.2.2.2.2.2.2.2.1, h.2.2.2.2.2.2.2.2⟩
theorem sp_sw_sw (a b k : Nat) : sp_sw a b (sp_sw a b k) = k := by
  unfold sp_sw
  by_cases h1 : k = a
  · rw [if_pos h1]
    by_cases h2 : b = a
    · rw [if_pos h2]; omega
    · rw [if_neg h2, if_pos rfl]; exact h1.symm
  · rw [if_neg h1]
    by_cases h2 : k = b
    · rw [if_pos h2, if_pos rfl]; exact h2.symm
    · rw [if_neg h2, if_neg h1, if_neg h2]
theorem sp_sw_lt {a b k P : Nat} (ha : a < P) (hb : b < P) (hk : k < P) : sp_sw a b k < P := by
  unfold sp_sw
  split
  · exact hb
  · split
    · exact ha
    · exact hk
theorem okB_si {B : Bd} {a b : Nat} (ha : a < bP B) (hb : b < bP B) (h : okB B) : okB (sp_setSi B a b) := ⟨h.1, h.2.1, h.2.2.1, fun k hk => sp_sw_lt ha hb hk, fun s hs => ⟨sp_sw_lt ha hb hs, sp_sw_sw a b s⟩, fun k hk => sp_sw_sw a b k, h.2.2.2.2.2.2.1, h.2.2.2.2.2.2.2.1, h.2.2.2.2.2.2.2.2⟩
/-- of a sheet -/
def isSh (σ : St) (T : Td) (s : Nat) : Prop := ((tF T s = -1 ∧ σ (53 + 2 * s) 0 = 1) ∨ ∃ f : Nat, f < 3 ∧ tF T s = nI f ∧ σ (53 + 2 * s) 0 = 0 ∧ σ (53 + 2 * s) 1 = nI f) ∧ σ (53 + 2 * s) 2 = nI (tS T s) ∧ ∀ i, i < tS T s → σ (54 + 2 * s) i = tI T s i
/-- the class holds what is told -/
def isCS (σ : St) (T : Td) : Prop := isTx σ 1 0 (tN T 0) (tB T 0) ∧ isTx σ 3 1 (tN T 1) (tB T 1) ∧ isB σ 5 (sp_told T) ∧ (σ 43 2 = nI (tH T) ∧ ∀ j, j < tH T → σ 44 j = nI (tHn T j) ∧ σ 45 j = nI (tHi T j)) ∧ (∀ s, s < 4 → isSh σ T s) ∧ σ 0 16 = tL T
/-- what the class has worked out and keeps, if it says so -/
def isCC (σ : St) (T : Td) : Prop := (σ 0 14 = 0 ∨ (σ 0 14 = 1 ∧ cRel σ 25 24 (sp_run (sp_told T) 24))) ∧ (σ 0 15 = 0 ∨ (σ 0 15 = 1 ∧ ∀ w, w < 2 ^ tE T → σ 50 w = rBit (sp_run (sp_setG (sp_told T) (nI w)) 24))) ∧ (σ 46 0 = 0 ∨ (σ 46 0 = 1 ∧ σ 46 1 = (sp_fill T).1 ∧ σ 46 3 = (sp_fill T).2)) ∧ (σ 47 0 = 0 ∨ (σ 47 0 = 1 ∧ σ 47 1 = (sp_swap T).1 ∧ σ 47 2 = (sp_swap T).2.1 ∧ σ 47 3 = (sp_swap T).2.2)) ∧ (σ 48 0 = 0 ∨ (σ 48 0 = 1 ∧ σ 48 1 = (sp_hold T).1 ∧ σ 48 3 = (sp_hold T).2)) ∧ (σ 49 0 = 0 ∨ (σ 49 0 = 1 ∧ σ 49 1 = (sp_spare (sp_told T)).1 ∧ σ 49 2 = (sp_spare (sp_told T)).2.1 ∧ σ 49 3 = (sp_spare (sp_told T)).2.2))
def isCT (σ : St) (T : Td) : Prop := isCS σ T ∧ isCC σ T
/-- the class's cells to try things in -/
def cWk (σ0 σ : St) : Prop := ∀ k, ¬ ((15 ≤ k ∧ k ≤ 24) ∨ (34 ≤ k ∧ k ≤ 42) ∨ k = 51) → σ k = σ0 k
theorem cWk.rf {σ : St} : cWk σ σ := fun _ _ => rfl
theorem cWk.tr {a b c : St} (h : cWk a b) (g : cWk b c) : cWk a c := fun k q => (g k q).trans (h k q)
theorem isSh.of {a b : St} {T : Td} {s : Nat} (h1 : b (53 + 2 * s) = a (53 + 2 * s)) (h2 : b (54 + 2 * s) = a (54 + 2 * s)) (g : isSh a T s) : isSh b T s := by
  unfold isSh
  rw [h1, h2]
  exact g
theorem isB.of {a c : St} {b : Nat} {B : Bd} (h : ∀ k, b ≤ k → k ≤ b + 9 → c k = a k) (g : isB a b B) : isB c b B := by
  unfold isB
  rw [h b (by omega) (by omega), h (b + 1) (by omega) (by omega), h (b + 2) (by omega) (by omega), h (b + 3) (by omega) (by omega), h (b + 4) (by omega) (by omega), h (b + 5) (by omega) (by omega), h (b + 6) (by omega) (by omega), h (b + 7) (by omega) (by omega), h (b + 8) (by omega) (by omega), h (b + 9) (by omega) (by omega)]
  exact g
theorem isTx.of {x y : St} {c k n : Nat} {b : Nat → Nat} (h1 : y c = x c) (h2 : y (c + 1) = x (c + 1)) (g : isTx x c k n b) : isTx y c k n b := by
  unfold isTx
  rw [h1, h2]
  exact g
theorem cRel.of {x y : St} {r t : Nat} {z : Rs} (h : ∀ k, r ≤ k → k ≤ r + 7 → y k = x k) (g : cRel x r t z) : cRel y r t z := by
  unfold cRel
  rw [h r (by omega) (by omega), h (r + 1) (by omega) (by omega), h (r + 2) (by omega) (by omega), h (r + 3) (by omega) (by omega), h (r + 4) (by omega) (by omega), h (r + 5) (by omega) (by omega), h (r + 6) (by omega) (by omega), h (r + 7) (by omega) (by omega)]
  exact g
theorem isCS.of {a b : St} {T : Td} (h : ∀ k, (1 ≤ k ∧ k ≤ 14) ∨ (43 ≤ k ∧ k ≤ 45) ∨ (53 ≤ k ∧ k ≤ 60) → b k = a k) (h0 : b 0 16 = a 0 16) (g : isCS a T) : isCS b T := by
  obtain ⟨g1, g2, g3, g4, g5, g6⟩ := g
  refine ⟨g1.of (h 1 (by omega)) (h 2 (by omega)), g2.of (h 3 (by omega)) (h 4 (by omega)), g3.of (fun k p q => h k (by omega)), ?_, fun s hs => (g5 s hs).of (h _ (by omega)) (h _ (by omega)), by rw [h0]; exact g6⟩
  rw [h 43 (by omega), h 44 (by omega), h 45 (by omega)]
  exact g4
theorem cWk.CS {a b : St} {T : Td} (h : cWk a b) (g : isCS a T) : isCS b T := g.of (fun k q => h k (by omega)) (by rw [h 0 (by omega)])
theorem cWk.CC {a b : St} {T : Td} (h : cWk a b) (g : isCC a T) : isCC b T := by
  obtain ⟨g1, g2, g3, g4, g5, g6⟩ := g
  unfold isCC
  rw [h 0 (by omega), h 46 (by omega), h 47 (by omega), h 48 (by omega), h 49 (by omega), h 50 (by omega)]
  refine ⟨?_, g2, g3, g4, g5, g6⟩
  rcases g1 with q | ⟨q1, q2⟩
  · exact Or.inl q
  · exact Or.inr ⟨q1, q2.of (fun k p q => h k (by omega))⟩
theorem cWk.CT {a b : St} {T : Td} (h : cWk a b) (g : isCT a T) : isCT b T := ⟨h.CS g.1, h.CC g.2⟩
theorem m6_unlearn_sp {σ : St} : Ok (m6_unlearn σ) (fun _ σ' => (∀ k, k ≠ 0 → ¬ (46 ≤ k ∧ k ≤ 49) → σ' k = σ k) ∧ σ' 0 16 = σ 0 16 ∧ ∀ T, isCC σ' T) := by
  unfold m6_unlearn
  simp only [zg_0, lt_eq]
  refine ok_some ⟨fun k p q => ?_, ?_, fun T => ⟨Or.inl ?_, Or.inl ?_, Or.inl ?_, Or.inl ?_, Or.inl ?_, Or.inl ?_⟩⟩
  · simp (disch := omega) only [sf_n]
  · simp only [sf_at]; simp
  · simp only [sf_at]; simp
  · simp only [sf_at]; simp
  · simp only [sf_at]; simp
  · simp only [sf_at]; simp
  · simp only [sf_at]; simp
  · simp only [sf_at]; simp
/-- nothing of the reference has changed -/
def clF (σ0 σ : St) : Prop := ∀ k, 61 ≤ k → σ k = σ0 k
theorem clF.rf {σ : St} : clF σ σ := fun _ _ => rfl
theorem clF.tr {a b c : St} (h : clF a b) (g : clF b c) : clF a c := fun k q => (g k q).trans (h k q)
theorem cWk.cl {a b : St} (h : cWk a b) : clF a b := fun k q => h k (by omega)
def mdF (σ0 σ : St) : Prop := ∀ k, k < 61 → σ k = σ0 k
theorem mdF.rf {σ : St} : mdF σ σ := fun _ _ => rfl
theorem mdF.tr {a b c : St} (h : mdF a b) (g : mdF b c) : mdF a c := fun k q => (g k q).trans (h k q)
theorem mWk.md {a b : St} (h : mWk a b) : mdF a b := fun k q => h.1 k (by omega)
theorem clF.MT {a b : St} {T : Td} (h : clF a b) (g : isMT a T) : isMT b T := by
  unfold isMT
  rw [h 67 (by omega), h 66 (by omega), h 70 (by omega), h 79 (by omega), h 62 (by omega), h 63 (by omega), h 64 (by omega), h 61 (by omega)]
  exact g
theorem mdF.CT {a b : St} {T : Td} (h : mdF a b) (g : isCT a T) : isCT b T := by
  refine ⟨g.1.of (fun k q => h k (by omega)) (by rw [h 0 (by omega)]), ?_⟩
  obtain ⟨g1, g2, g3, g4, g5, g6⟩ := g.2
  unfold isCC
  rw [h 0 (by omega), h 46 (by omega), h 47 (by omega), h 48 (by omega), h 49 (by omega), h 50 (by omega)]
  refine ⟨?_, g2, g3, g4, g5, g6⟩
  rcases g1 with q | ⟨q1, q2⟩
  · exact Or.inl q
  · exact Or.inr ⟨q1, q2.of (fun k p q => h k (by omega))⟩
