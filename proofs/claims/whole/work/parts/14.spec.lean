/-! ===== a band, and what comes of it, beat by beat: plain mathematics ===== -/
/-- players: how many, sort, lets, seat of each, who sits in a seat; notes: how many, beat, player; the bag; events: how many, kind, beat; those that are not (bits); a beat on which it is kept besides -/
abbrev Bd : Type := Nat × (Nat → Int32) × (Nat → Int32) × (Nat → Nat) × (Nat → Nat) × Nat × (Nat → Nat) × (Nat → Nat) × Int32 × Nat × (Nat → Nat) × (Nat → Nat) × Int32 × Int32
def bP (B : Bd) : Nat := B.1
def bso (B : Bd) : Nat → Int32 := B.2.1
def ble (B : Bd) : Nat → Int32 := B.2.2.1
def bsi (B : Bd) : Nat → Nat := B.2.2.2.1
def bwh (B : Bd) : Nat → Nat := B.2.2.2.2.1
def bN (B : Bd) : Nat := B.2.2.2.2.2.1
def bnb (B : Bd) : Nat → Nat := B.2.2.2.2.2.2.1
def bnp (B : Bd) : Nat → Nat := B.2.2.2.2.2.2.2.1
def bbag (B : Bd) : Int32 := B.2.2.2.2.2.2.2.2.1
def bE (B : Bd) : Nat := B.2.2.2.2.2.2.2.2.2.1
def bkd (B : Bd) : Nat → Nat := B.2.2.2.2.2.2.2.2.2.2.1
def bbt (B : Bd) : Nat → Nat := B.2.2.2.2.2.2.2.2.2.2.2.1
def bg (B : Bd) : Int32 := B.2.2.2.2.2.2.2.2.2.2.2.2.1
def bod (B : Bd) : Int32 := B.2.2.2.2.2.2.2.2.2.2.2.2.2
/-- a band as it can be -/
def okB (B : Bd) : Prop := bP B ≤ 11 ∧ bN B ≤ 16 ∧ bE B ≤ 8 ∧ (∀ k, k < bP B → bsi B k < bP B) ∧ (∀ s, s < bP B → bwh B s < bP B ∧ bsi B (bwh B s) = s) ∧ (∀ k, k < bP B → bwh B (bsi B k) = k) ∧ (∀ i, i < bN B → bnb B i < 24 ∧ bnp B i < 11) ∧ (∀ e, e < bE B → bkd B e < 3 ∧ bbt B e < 24) ∧ (bod B = -1 ∨ ∃ t : Nat, t < 24 ∧ bod B = nI t)
/-- bit e of a mask -/
abbrev sp_bit (g : Int32) (e : Nat) : Int32 := (g >>> (nI e &&& 31)) &&& 1
theorem and1 (x : Int32) : x &&& 1 = 0 ∨ x &&& 1 = 1 := by
  obtain ⟨j, h1, h2⟩ := pk_andE x (m := 1) 1 (by decide)
  rcases (show j = 0 ∨ j = 1 by omega) with rfl | rfl
  · exact Or.inl h2
  · exact Or.inr h2
def sp_cn (B : Bd) (q t : Nat) : Nat → Nat
  | 0 => 0
  | e + 1 => sp_cn B q t e + (if bkd B e = q ∧ bbt B e = t ∧ sp_bit (bg B) e = 0 then 1 else 0)
def sp_cnt (B : Bd) (q t : Nat) : Nat := sp_cn B q t (bE B)
theorem sp_cn_le (B : Bd) (q t : Nat) : ∀ e, sp_cn B q t e ≤ e
  | 0 => Nat.le_refl 0
  | e + 1 => by
    have := sp_cn_le B q t e
    unfold sp_cn
    split <;> omega
theorem sp_cn_pos (B : Bd) (q t : Nat) : ∀ n, 0 < sp_cn B q t n ↔ ∃ e, e < n ∧ bkd B e = q ∧ bbt B e = t ∧ sp_bit (bg B) e = 0
  | 0 => ⟨fun h => by simp [sp_cn] at h, fun ⟨e, h, _⟩ => by omega⟩
  | n + 1 => by
    unfold sp_cn
    constructor
    · intro h
      by_cases c : bkd B n = q ∧ bbt B n = t ∧ sp_bit (bg B) n = 0
      · exact ⟨n, by omega, c⟩
      · rw [if_neg c] at h
        obtain ⟨e, h1, h2⟩ := (sp_cn_pos B q t n).mp (by omega)
        exact ⟨e, by omega, h2⟩
    · rintro ⟨e, h1, h2⟩
      by_cases c : e = n
      · subst c
        rw [if_pos h2]; omega
      · have := (sp_cn_pos B q t n).mpr ⟨e, by omega, h2⟩
        omega
/-- what comes of it: where the bag is, what it holds, stolen, leaks, of players how many sound, taken, gone; of notes; how many sound, which (bits), missed of those that are there; behind each beat: seat, held, lost -/
abbrev Rs : Type := Nat × Int32 × Int32 × Int32 × (Nat → Int32) × (Nat → Int32) × (Nat → Int32) × (Nat → Int32) × Int32 × Int32 × Int32 × (Nat → Int32) × (Nat → Int32) × (Nat → Int32)
def rSeat (r : Rs) : Nat := r.1
def rHold (r : Rs) : Int32 := r.2.1
def rStol (r : Rs) : Int32 := r.2.2.1
def rLeak (r : Rs) : Int32 := r.2.2.2.1
def rSnds (r : Rs) : Nat → Int32 := r.2.2.2.2.1
def rTook (r : Rs) : Nat → Int32 := r.2.2.2.2.2.1
def rGoes (r : Rs) : Nat → Int32 := r.2.2.2.2.2.2.1
def rSt (r : Rs) : Nat → Int32 := r.2.2.2.2.2.2.2.1
def rSnd (r : Rs) : Int32 := r.2.2.2.2.2.2.2.2.1
def rBit (r : Rs) : Int32 := r.2.2.2.2.2.2.2.2.2.1
def rMiss (r : Rs) : Int32 := r.2.2.2.2.2.2.2.2.2.2.1
def rSB (r : Rs) : Nat → Int32 := r.2.2.2.2.2.2.2.2.2.2.2.1
def rHB (r : Rs) : Nat → Int32 := r.2.2.2.2.2.2.2.2.2.2.2.2.1
def rLB (r : Rs) : Nat → Int32 := r.2.2.2.2.2.2.2.2.2.2.2.2.2
def sp_nd (s : Int32) : Int32 := if s = 0 then 4 else if s = 1 then 2 else 1
def sp_tk (s : Int32) : Int32 := sp_nd s - sp_nd s / 2
abbrev sp_nr (B : Bd) (k s : Nat) : Prop := bsi B k = s ∨ (bso B k = 2 ∧ (bsi B k = s + 1 ∨ s = bsi B k + 1))
def sp_snd (B : Bd) (i : Nat) (r : Rs) : Rs :=
  (rSeat r, rHold r - sp_tk (bso B (bnp B i)), rStol r, rLeak r, upd (rSnds r) (bnp B i) (rSnds r (bnp B i) + 1), upd (rTook r) (bnp B i) (rTook r (bnp B i) + sp_tk (bso B (bnp B i))), rGoes r, upd (rSt r) i (if 10 ≤ rHold r - sp_tk (bso B (bnp B i)) then 2 else 1), rSnd r + 1, rBit r ||| (1 <<< (nI i &&& 31)), rMiss r, rSB r, rHB r, rLB r)
def sp_ms (r : Rs) : Rs := (rSeat r, rHold r, rStol r, rLeak r, rSnds r, rTook r, rGoes r, rSt r, rSnd r, rBit r, rMiss r + 1, rSB r, rHB r, rLB r)
def sp_blow (B : Bd) (i : Nat) (r : Rs) : Rs := if bnp B i < bP B then (if sp_nr B (bnp B i) (rSeat r) ∧ sp_nd (bso B (bnp B i)) ≤ rHold r then sp_snd B i r else sp_ms r) else r
def sp_all (B : Bd) (t : Nat) : Nat → Rs → Rs
  | 0, r => r
  | i + 1, r => if bnb B i = t then sp_blow B i (sp_all B t i r) else sp_all B t i r
def sp_steal (B : Bd) (t : Nat) (r : Rs) : Rs := (rSeat r, rHold r - sy_min (rHold r) (3 * nI (sp_cnt B 0 t)), rStol r + sy_min (rHold r) (3 * nI (sp_cnt B 0 t)), rLeak r, rSnds r, rTook r, rGoes r, rSt r, rSnd r, rBit r, rMiss r, rSB r, rHB r, rLB r)
abbrev sp_kept (B : Bd) (t : Nat) : Prop := bP B = 0 ∨ 0 < sp_cnt B 2 t ∨ bod B = nI t
def sp_due (B : Bd) (r : Rs) : Int32 := ble B (bwh B (rSeat r)) + (if rSeat r + 1 = bP B then 2 else 0)
def sp_lost (B : Bd) (t : Nat) (r : Rs) : Int32 := if sp_kept B t then 0 else sy_min (rHold r) (if 0 < sp_cnt B 1 t then 2 * sp_due B r else sp_due B r)
def sp_pass (B : Bd) (t : Nat) (r : Rs) : Rs := if sp_kept B t then r else (if rSeat r + 1 = bP B then 0 else rSeat r + 1, rHold r - sp_lost B t r, rStol r, rLeak r + sp_lost B t r, rSnds r, rTook r, upd (rGoes r) (bwh B (rSeat r)) (rGoes r (bwh B (rSeat r)) + sp_lost B t r), rSt r, rSnd r, rBit r, rMiss r, rSB r, rHB r, rLB r)
def sp_note (t : Nat) (x : Int32) (r : Rs) : Rs := (rSeat r, rHold r, rStol r, rLeak r, rSnds r, rTook r, rGoes r, rSt r, rSnd r, rBit r, rMiss r, upd (rSB r) t (nI (rSeat r)), upd (rHB r) t (rHold r), upd (rLB r) t x)
def sp_beat (B : Bd) (t : Nat) (r : Rs) : Rs := sp_note t (sp_lost B t (sp_all B t (bN B) (sp_steal B t r))) (sp_pass B t (sp_all B t (bN B) (sp_steal B t r)))
def sp_init (B : Bd) : Rs := (0, bbag B, 0, 0, fun _ => 0, fun _ => 0, fun _ => 0, fun _ => 0, 0, 0, 0, fun _ => 0, fun _ => 0, fun _ => 0)
def sp_run (B : Bd) : Nat → Rs
  | 0 => sp_init B
  | t + 1 => sp_beat B t (sp_run B t)
/-- the bag is in a seat that there is -/
def sp_in (B : Bd) (r : Rs) : Prop := (bP B = 0 ∧ rSeat r = 0) ∨ rSeat r < bP B
theorem sp_in_blow {B : Bd} {i : Nat} {r : Rs} (h : sp_in B r) : sp_in B (sp_blow B i r) := by
  unfold sp_blow
  split
  · split
    · exact h
    · exact h
  · exact h
theorem sp_in_all {B : Bd} {t : Nat} : ∀ {n : Nat} {r : Rs}, sp_in B r → sp_in B (sp_all B t n r)
  | 0, r, h => h
  | n + 1, r, h => by
    unfold sp_all
    split
    · exact sp_in_blow (sp_in_all h)
    · exact sp_in_all h
theorem sp_in_pass {B : Bd} {t : Nat} {r : Rs} (h : sp_in B r) : sp_in B (sp_pass B t r) := by
  unfold sp_pass
  split
  · exact h
  · rename_i hk
    rcases h with h | h
    · exact absurd (Or.inl h.1) hk
    · refine Or.inr ?_
      show (if rSeat r + 1 = bP B then 0 else rSeat r + 1) < bP B
      split <;> omega
theorem sp_in_beat {B : Bd} {t : Nat} {r : Rs} (h : sp_in B r) : sp_in B (sp_beat B t r) := by
  have h1 : sp_in B (sp_all B t (bN B) (sp_steal B t r)) := sp_in_all (show sp_in B (sp_steal B t r) from h)
  exact (show sp_in B (sp_pass B t _) from sp_in_pass h1)
theorem sp_in_init (B : Bd) : sp_in B (sp_init B) := by
  by_cases h : bP B = 0
  · exact Or.inl ⟨h, rfl⟩
  · exact Or.inr (show 0 < bP B by omega)
theorem sp_in_run (B : Bd) : ∀ t, sp_in B (sp_run B t)
  | 0 => sp_in_init B
  | t + 1 => sp_in_beat (sp_in_run B t)
