/-! ===== the pure part: what the functions answer ===== -/
def Ok {α : Type} (r : Option (α × St)) (Q : α → St → Prop) : Prop := match r with
  | some q => Q q.1 q.2
  | none => False
theorem ok_of {α : Type} {r : Option (α × St)} {Q : α → St → Prop} (h : Ok r Q) : ∃ x σ, r = some (x, σ) ∧ Q x σ := by
  cases r with
  | none => cases h
  | some q => exact ⟨q.1, q.2, rfl, h⟩
theorem ok_mono {α : Type} {r : Option (α × St)} {P Q : α → St → Prop} (h : Ok r P) (k : ∀ x σ, P x σ → Q x σ) : Ok r Q := by
  cases r with
  | none => cases h
  | some q => exact k _ _ h
theorem ok_bd {α β : Type} {r : Option (β × St)} {f : β → St → Option (α × St)} {P : β → St → Prop} {Q : α → St → Prop} (h : Ok r P) (k : ∀ x σ, P x σ → Ok (f x σ) Q) : Ok (sy_bd r f) Q := by
  cases r with
  | none => cases h
  | some q => exact k _ _ h
theorem ok_some {α : Type} {x : α} {σ : St} {Q : α → St → Prop} (h : Q x σ) : Ok (some (x, σ)) Q := h
theorem bd_some {α β : Type} (x : β) (σ : St) (f : β → St → Option (α × St)) : sy_bd (some (x, σ)) f = f x σ := rfl
theorem lt_eq {δ γ : Type} (x : δ) (f : δ → γ) : sy_lt x f = f x := rfl
theorem gd_in {γ : Type} {i : Int32} {n : Nat} {r : Option γ} (h : vp_in i n) : sy_gd i n r = r := if_neg h
theorem gd_nI {γ : Type} {j n : Nat} {r : Option γ} (h : j < n) (hn : n < 2 ^ 31) : sy_gd (nI j) n r = r := gd_in (vp_in_nI h hn)
theorem ix_nI {j : Nat} (h : j < 2 ^ 31) : (nI j).toNatClampNeg = j := nI_clamp h
theorem dv_ne {γ : Type} {y : Int32} {r : Option γ} (h : ¬ y = 0) : sy_dv y r = r := if_neg h
theorem zg_0 {γ : Type} {r : Option γ} : sy_zg 0 r = r := if_pos (Or.inl rfl)
theorem zg_1 {γ : Type} {r : Option γ} : sy_zg 1 r = r := if_pos (Or.inr rfl)
theorem sf_ss (σ : St) (k j : Nat) (v : Int32) : sy_sf σ k j v k j = v := by simp [sy_sf, sy_up, upd]
theorem sf_sn {σ : St} {k j b : Nat} {v : Int32} (h : b ≠ j) : sy_sf σ k j v k b = σ k b := by simp [sy_sf, sy_up, upd, h]
theorem sf_n {σ : St} {k j a : Nat} {v : Int32} (h : a ≠ k) : sy_sf σ k j v a = σ a := by simp [sy_sf, sy_up, h]
theorem sf_at (σ : St) (k j a b : Nat) (v : Int32) : sy_sf σ k j v a b = if a = k ∧ b = j then v else σ a b := by
  by_cases ha : a = k
  · subst ha
    by_cases hb : b = j
    · subst hb; simp [sf_ss]
    · simp [hb, sf_sn hb]
  · simp [ha, sf_n ha]
/-- a truth as an int -/
def b01 (c : Prop) [Decidable c] : Int32 := if c then 1 else 0
theorem b01_0 {c : Prop} [Decidable c] {γ : Type} {A B : γ} : (if b01 c = 0 then A else B) = if c then B else A := by
  unfold b01
  by_cases h : c <;> simp [h]
theorem b01_zg {c : Prop} [Decidable c] {γ : Type} {r : Option γ} : sy_zg (b01 c) r = r := by
  unfold b01
  by_cases h : c
  · rw [if_pos h]; exact zg_1
  · rw [if_neg h]; exact zg_0
theorem i32_le {a b : Int32} : a ≤ b ↔ a.toInt ≤ b.toInt := Int32.le_iff_toInt_le
theorem i32_lt {a b : Int32} : a < b ↔ a.toInt < b.toInt := Int32.lt_iff_toInt_lt
theorem i32_eq {a b : Int32} : a = b ↔ a.toInt = b.toInt := Int32.toInt_inj.symm
theorem i64_le {a b : Int64} : a ≤ b ↔ a.toInt ≤ b.toInt := Int64.le_iff_toInt_le
theorem i64_lt {a b : Int64} : a < b ↔ a.toInt < b.toInt := Int64.lt_iff_toInt_lt
theorem i64_eq {a b : Int64} : a = b ↔ a.toInt = b.toInt := Int64.toInt_inj.symm
theorem lg_neg {a b : Int64} : lg_cmp a b < 0 ↔ a < b := by
  unfold lg_cmp
  by_cases h1 : a > b
  · rw [if_pos h1]
    exact ⟨fun h => absurd h (by decide), fun h => by have h1 := i64_lt.mp h1; have := i64_lt.mp h; omega⟩
  · rw [if_neg h1]
    by_cases h2 : a = b
    · rw [if_pos h2]
      exact ⟨fun h => absurd h (by decide), fun h => by subst h2; have := i64_lt.mp h; omega⟩
    · rw [if_neg h2]
      refine ⟨fun _ => i64_lt.mpr ?_, fun _ => by decide⟩
      have g1 : ¬ b.toInt < a.toInt := fun q => h1 (i64_lt.mpr q)
      have g2 : ¬ a.toInt = b.toInt := fun q => h2 (i64_eq.mpr q)
      omega
theorem lg_pos {a b : Int64} : 0 < lg_cmp a b ↔ b < a := by
  unfold lg_cmp
  by_cases h1 : a > b
  · rw [if_pos h1]
    exact ⟨fun _ => h1, fun _ => by decide⟩
  · rw [if_neg h1]
    by_cases h2 : a = b
    · rw [if_pos h2]
      exact ⟨fun h => absurd h (by decide), fun h => absurd h h1⟩
    · rw [if_neg h2]
      exact ⟨fun h => absurd h (by decide), fun h => absurd h h1⟩
theorem lg_zero {a b : Int64} : lg_cmp a b = 0 ↔ a = b := by
  unfold lg_cmp
  by_cases h1 : a > b
  · rw [if_pos h1]
    exact ⟨fun h => absurd h (by decide), fun h => by subst h; have := i64_lt.mp h1; omega⟩
  · rw [if_neg h1]
    by_cases h2 : a = b
    · rw [if_pos h2]; exact ⟨fun _ => h2, fun _ => rfl⟩
    · rw [if_neg h2]
      exact ⟨fun h => absurd h (by decide), fun h => absurd h h2⟩
theorem m7_in_eq (a b c : Int64) (σ : St) : m7_in a b c σ = some (b01 (b ≤ a ∧ a ≤ c), σ) := by
  unfold m7_in
  by_cases h1 : lg_cmp a b < 0
  · have g := i64_lt.mp (lg_neg.mp h1)
    have : ¬ (b ≤ a ∧ a ≤ c) := fun q => by have := i64_le.mp q.1; omega
    simp [h1, zg_0, b01, this]
  · have g : ¬ a.toInt < b.toInt := fun q => h1 (lg_neg.mpr (i64_lt.mpr q))
    rw [if_neg h1]
    by_cases h2 : 0 < lg_cmp a c
    · have g2 := i64_lt.mp (lg_pos.mp h2)
      have : ¬ (b ≤ a ∧ a ≤ c) := fun q => by have := i64_le.mp q.2; omega
      simp [h2, zg_0, b01, this]
    · have g2 : ¬ c.toInt < a.toInt := fun q => h2 (lg_pos.mpr (i64_lt.mpr q))
      have : (b ≤ a ∧ a ≤ c) := ⟨i64_le.mpr (by omega), i64_le.mpr (by omega)⟩
      rw [if_neg h2, zg_1]
      simp [b01, this]
theorem le64 {a b : Int32} : a.toInt64 ≤ b.toInt64 ↔ a ≤ b := by rw [i64_le, i32_le, Int32.toInt_toInt64, Int32.toInt_toInt64]
theorem m7_in32 (a b c : Int32) (σ : St) : m7_in a.toInt64 b.toInt64 c.toInt64 σ = some (b01 (b ≤ a ∧ a ≤ c), σ) := by
  rw [m7_in_eq]
  simp only [le64]
theorem m7_isTwo_eq (a : Int32) (σ : St) : m7_isTwo a σ = some (b01 (0 ≤ a ∧ a ≤ 1), σ) := by
  unfold m7_isTwo
  rw [show m7_in a.toInt64 0 1 σ = _ from m7_in32 a 0 1 σ, bd_some, b01_zg]
theorem m7_isBeat_eq (a : Int32) (σ : St) : m7_isBeat a σ = some (b01 (0 ≤ a ∧ a ≤ 23), σ) := by
  unfold m7_isBeat
  rw [show m7_in a.toInt64 0 23 σ = _ from m7_in32 a 0 23 σ, bd_some, b01_zg]
theorem m7_isSheet_eq (a : Int32) (σ : St) : m7_isSheet a σ = some (b01 (0 ≤ a ∧ a ≤ 3), σ) := by
  unfold m7_isSheet
  rw [show m7_in a.toInt64 0 3 σ = _ from m7_in32 a 0 3 σ, bd_some, b01_zg]
theorem m7_isPlayer_eq (a : Int32) (σ : St) : m7_isPlayer a σ = some (b01 (0 ≤ a ∧ a ≤ σ 61 7 - 1), σ) := by
  unfold m7_isPlayer
  rw [show m7_in a.toInt64 0 _ σ = _ from m7_in32 a 0 _ σ, bd_some, b01_zg]
theorem m7_isNote_eq (a : Int32) (σ : St) : m7_isNote a σ = some (b01 (0 ≤ a ∧ a ≤ σ 61 9 - 1), σ) := by
  unfold m7_isNote
  rw [show m7_in a.toInt64 0 _ σ = _ from m7_in32 a 0 _ σ, bd_some, b01_zg]
theorem m6_within_eq (a b c : Int32) (σ : St) : m6_within a b c σ = some (b01 (b ≤ a ∧ a ≤ c), σ) := by
  unfold m6_within
  by_cases h1 : a < b
  · have g := i32_lt.mp h1
    have : ¬ (b ≤ a ∧ a ≤ c) := fun q => by have := i32_le.mp q.1; omega
    simp [h1, zg_0, b01, this]
  · have g : ¬ a.toInt < b.toInt := fun q => h1 (i32_lt.mpr q)
    rw [if_neg h1]
    by_cases h2 : c < a
    · have g2 := i32_lt.mp h2
      have : ¬ (b ≤ a ∧ a ≤ c) := fun q => by have := i32_le.mp q.2; omega
      simp [h2, zg_0, b01, this]
    · have g2 : ¬ c.toInt < a.toInt := fun q => h2 (i32_lt.mpr q)
      have : (b ≤ a ∧ a ≤ c) := ⟨i32_le.mpr (by omega), i32_le.mpr (by omega)⟩
      rw [if_neg h2, zg_1]
      simp [b01, this]
/-- a number from 0 to n is one of these -/
theorem nI_rng {a : Int32} {n : Nat} (hn : n < 2 ^ 31) (h : 0 ≤ a ∧ a ≤ nI n) : ∃ j : Nat, j ≤ n ∧ a = nI j :=
  nI_of2 (nI_toInt hn) (fun q => by have h1 := i32_le.mp h.1; have h2 := i32_lt.mp q; omega) h.2
theorem nI_rngP {a : Int32} {n : Nat} (hn : n < 2 ^ 31) (h : 0 ≤ a ∧ a ≤ nI n - 1) : ∃ j : Nat, j < n ∧ a = nI j := by
  cases n with
  | zero =>
    exfalso
    have h1 := i32_le.mp h.1
    have h2 := i32_le.mp h.2
    have e1 : (0 : Int32).toInt = 0 := by decide
    have e2 : (nI 0 - 1).toInt = -1 := by decide
    omega
  | succ n =>
    rw [nI_pred] at h
    obtain ⟨j, h1, h2⟩ := nI_rng (by omega) h
    exact ⟨j, by omega, h2⟩
theorem nI_inP {j n : Nat} (hn : n < 2 ^ 31) (h : j < n) : 0 ≤ nI j ∧ nI j ≤ nI n - 1 := by
  cases n with
  | zero => omega
  | succ n => rw [nI_pred]; exact ⟨nI_pos' (by omega), nI_le (by omega) (by omega)⟩
theorem nI_inR {j n : Nat} (hn : n < 2 ^ 31) (h : j ≤ n) : 0 ≤ nI j ∧ nI j ≤ nI n := ⟨nI_pos' (by omega), nI_le h hn⟩
theorem nI_2 (a : Nat) : 2 * nI a = nI (2 * a) := pk_mul 2 a
theorem nI_60 (a : Nat) : 60 * nI a = nI (60 * a) := pk_mul 60 a
theorem nI_48 (a : Nat) : 48 * nI a = nI (48 * a) := pk_mul 48 a
theorem nI_16 (a : Nat) : 16 * nI a = nI (16 * a) := pk_mul 16 a
theorem nI_48a (a : Nat) : 48 + nI a = nI (48 + a) := nI_add 48 a
theorem nI_a0 (x : Int32) : x + 0 = x := Int32.add_zero x
