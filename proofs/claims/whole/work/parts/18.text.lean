/-! ===== the texts ===== -/
/-- what byte b means at place q of a thing: players (k = 0), notes -/
def sp_v (k q b : Nat) : Option Nat := if q = 0 then (if k = 0 then (if b = 116 then some 0 else if b = 104 then some 1 else if b = 99 then some 2 else none) else (if 97 ≤ b ∧ b ≤ 120 then some (b - 97) else none)) else if q = 1 then (if k = 0 then (if 48 ≤ b ∧ b ≤ 51 then some (b - 48) else none) else (if 97 ≤ b ∧ b ≤ 107 then some (b - 97) else none)) else (if b = 59 then some 0 else none)
abbrev sp_ok (k : Nat) (b : Nat → Nat) (i : Nat) : Prop := (sp_v k (i % 3) (b i)).isSome = true
/-- the first byte with which it can't go on; n: there is none -/
def sp_ff (k : Nat) (b : Nat → Nat) : Nat → Nat
  | 0 => 0
  | n + 1 => if sp_ff k b n < n then sp_ff k b n else if sp_ok k b n then n + 1 else n
theorem sp_ff_le (k : Nat) (b : Nat → Nat) : ∀ n, sp_ff k b n ≤ n
  | 0 => Nat.le_refl 0
  | n + 1 => by
    have := sp_ff_le k b n
    unfold sp_ff
    split
    · omega
    · split <;> omega
theorem sp_ff_all {k : Nat} {b : Nat → Nat} : ∀ n, (∀ j, j < n → sp_ok k b j) → sp_ff k b n = n
  | 0, _ => rfl
  | n + 1, h => by
    have := sp_ff_all n (fun j hj => h j (by omega))
    unfold sp_ff
    rw [if_neg (by omega), if_pos (h n (by omega))]
theorem sp_ff_at {k : Nat} {b : Nat → Nat} {i : Nat} (h : ∀ j, j < i → sp_ok k b j) (hi : ¬ sp_ok k b i) : ∀ n, i < n → sp_ff k b n = i
  | 0, q => by omega
  | n + 1, q => by
    unfold sp_ff
    by_cases e : n = i
    · subst e
      rw [sp_ff_all n h, if_neg (by omega), if_neg hi]
    · rw [sp_ff_at h hi n (by omega), if_pos (by omega)]
theorem sp_ff_ok {k : Nat} {b : Nat → Nat} {n : Nat} (h : sp_ff k b n = n) : ∀ j, j < n → sp_ok k b j := by
  intro j hj
  by_cases c : ∃ i, i ≤ j ∧ ¬ sp_ok k b i
  · obtain ⟨i, ⟨h1, h2⟩, h3⟩ := pk_least (fun i => i ≤ j ∧ ¬ sp_ok k b i) c
    have := sp_ff_at (fun q hq => by
      by_cases z : sp_ok k b q
      · exact z
      · exact absurd ⟨by omega, z⟩ (h3 q hq)) h2 n (by omega)
    omega
  · by_cases z : sp_ok k b j
    · exact z
    · exact absurd ⟨j, Nat.le_refl j, z⟩ c
abbrev sp_end (n : Nat) : Prop := n = 0 ∨ n % 3 = 2
abbrev sp_wl (k n : Nat) (b : Nat → Nat) : Prop := sp_ff k b n = n ∧ sp_end n
def sp_th (k n : Nat) (b : Nat → Nat) : Nat := if sp_wl k n b then (n + 1) / 3 else 0
def sp_flt (k n : Nat) (b : Nat → Nat) : Int32 := if sp_ff k b n < n then nI (sp_ff k b n) else if sp_end n then -1 else nI n
def sp_val (k : Nat) (b : Nat → Nat) (q i : Nat) : Nat := (sp_v k q (b (3 * i + q))).getD 0
theorem sp_val_lt {k : Nat} {b : Nat → Nat} {i : Nat} : sp_val k b 0 i < 24 ∧ sp_val k b 1 i < 11 := by
  unfold sp_val sp_v
  constructor
  · simp only [if_true]
    split
    · split
      · simp
      · split
        · simp
        · split <;> simp
    · split
      · simp at *; omega
      · simp
  · rw [if_neg (by omega), if_pos rfl]
    split
    · split
      · simp; omega
      · simp
    · split
      · simp; omega
      · simp
theorem div3 {i : Nat} (h : i < 2 ^ 31) : nI i / 3 = nI (i / 3) := pk_div (d := 3) h (by omega) (by omega)
theorem rem3 {i : Nat} (h : i < 2 ^ 31) : nI i - nI i / 3 * 3 = nI (i % 3) := pk_rem (d := 3) h (by omega) (by omega)
theorem rem3' {i : Nat} (h : i < 2 ^ 31) : nI i - nI (i / 3) * 3 = nI (i % 3) := by rw [← div3 h]; exact rem3 h
/-- a byte of a range, as the reference says it -/
def sp_w9 (o : Option Nat) : Int32 := match o with
  | some v => nI v
  | none => -9
def sp_w1 (o : Option Nat) : Int32 := match o with
  | some v => nI v
  | none => -1
theorem in_nI {b lo hi : Nat} (hb : b < 2 ^ 31) (hl : lo < 2 ^ 31) (hh : hi < 2 ^ 31) : (nI lo ≤ nI b ∧ nI b ≤ nI hi) ↔ (lo ≤ b ∧ b ≤ hi) := by rw [nI_leI hl hb, nI_leI hb hh]
theorem m7_letterOf_eq {b hi : Nat} (hb : b < 256) (hh : hi < 256) (σ : St) : m7_letterOf (nI b) (nI hi) σ = some (sp_w9 (if 97 ≤ b ∧ b ≤ hi then some (b - 97) else none), σ) := by
  unfold m7_letterOf
  rw [show m7_in (nI b).toInt64 97 (nI hi).toInt64 σ = _ from m7_in32 (nI b) (nI 97) (nI hi) σ, bd_some, b01_0]
  simp (disch := omega) only [in_nI]
  by_cases c : 97 ≤ b ∧ b ≤ hi
  · rw [if_pos c, if_pos c, show (97 : Int32) = nI 97 from rfl, pk_sub c.1]; rfl
  · rw [if_neg c, if_neg c]; rfl
theorem m7_playerOf_eq {q b : Nat} (hq : q < 3) (hb : b < 256) (σ : St) : m7_playerOf (nI q) (nI b) σ = some (sp_w9 (sp_v 0 q b), σ) := by
  unfold m7_playerOf sp_v
  rw [show (116 : Int32) = nI 116 from rfl, show (104 : Int32) = nI 104 from rfl, show (99 : Int32) = nI 99 from rfl, show (59 : Int32) = nI 59 from rfl]
  simp (disch := omega) only [nI_e0, nI_e1, nI_eq]
  by_cases c0 : q = 0
  · rw [if_pos c0, if_pos c0]
    simp only [if_true]
    split
    · rfl
    · split
      · rfl
      · split <;> rfl
  · rw [if_neg c0, if_neg c0]
    by_cases c1 : q = 1
    · rw [if_pos c1, if_pos c1]
      simp only [if_true]
      rw [show m7_in (nI b).toInt64 48 51 σ = _ from m7_in32 (nI b) (nI 48) (nI 51) σ, bd_some, b01_0]
      simp (disch := omega) only [in_nI]
      by_cases c : 48 ≤ b ∧ b ≤ 51
      · rw [if_pos c, if_pos c, show (48 : Int32) = nI 48 from rfl, pk_sub c.1]; rfl
      · rw [if_neg c, if_neg c]; rfl
    · rw [if_neg c1, if_neg c1]
      split <;> rfl
theorem m7_noteOf_eq {q b : Nat} (hq : q < 3) (hb : b < 256) (σ : St) : m7_noteOf (nI q) (nI b) σ = some (sp_w9 (sp_v 1 q b), σ) := by
  unfold m7_noteOf sp_v
  rw [show (120 : Int32) = nI 120 from rfl, show (107 : Int32) = nI 107 from rfl, show (59 : Int32) = nI 59 from rfl]
  simp (disch := omega) only [nI_e0, nI_e1, nI_eq, m7_letterOf_eq, bd_some]
  by_cases c0 : q = 0
  · rw [if_pos c0, if_pos c0]
    simp
  · rw [if_neg c0, if_neg c0]
    by_cases c1 : q = 1
    · rw [if_pos c1, if_pos c1]
      simp
    · rw [if_neg c1, if_neg c1]
      split <;> rfl
theorem sp_w9_9 (o : Option Nat) (h : ∀ v, o = some v → v < 2 ^ 31) : sp_w9 o = -9 ↔ ¬ o.isSome = true := by
  cases o with
  | none => simp [sp_w9]
  | some v =>
    simp only [sp_w9, Option.isSome_some, not_true_eq_false, iff_false]
    intro q
    have h1 := congrArg Int32.toInt q
    rw [nI_toInt (h v rfl)] at h1
    have e : (-9 : Int32).toInt = -9 := by decide
    omega
theorem sp_v_lt {k q b v : Nat} (hb : b < 256) (h : sp_v k q b = some v) : v < 256 := by
  unfold sp_v at h
  repeat' split at h
  all_goals first | (cases h; omega) | cases h
/-- what reading a text of the reference changes -/
def rpF (σ0 σ : St) : Prop := (∀ k, k ≠ 61 → k ≠ 68 → σ k = σ0 k) ∧ ∀ j, j ≠ 7 → σ 61 j = σ0 61 j
theorem rpF.rf {σ : St} : rpF σ σ := ⟨fun _ _ _ => rfl, fun _ _ => rfl⟩
theorem rpF.tr {a b c : St} (h : rpF a b) (g : rpF b c) : rpF a c := ⟨fun k p q => (g.1 k p q).trans (h.1 k p q), fun j q => (g.2 j q).trans (h.2 j q)⟩
theorem m7_readsPlayers_loop {σ0 : St} {n : Nat} {b : Nat → Nat} {Q : Int32 → St → Prop} (hn : n ≤ 32) (hb : ∀ j, j < n → σ0 66 (j) = nI (b j) ∧ b j < 256) (Eb Ee : Int32 → St → Option (Int32 × St)) (hEb : ∀ σ i, i < n → (∀ j, j < i → sp_ok 0 b j) → ¬ sp_ok 0 b i → rpF σ0 σ → Ok (Eb (nI i) σ) Q)
    (hEe : ∀ σ, (∀ j, j < n → sp_ok 0 b j) → rpF σ0 σ → σ 61 7 = nI ((n + 1) / 3) → (∀ j, j < n → j % 3 < 2 → σ 68 (2 * (j / 3) + j % 3) = nI ((sp_v 0 (j % 3) (b j)).getD 0)) → Ok (Ee (nI n) σ) Q) :
    ∀ (k i : Nat), i + k = n → ∀ f, k < f → ∀ σ, rpF σ0 σ → (∀ j, j < i → sp_ok 0 b j) → σ 61 7 = nI ((i + 1) / 3) → (∀ j, j < i → j % 3 < 2 → σ 68 (2 * (j / 3) + j % 3) = nI ((sp_v 0 (j % 3) (b j)).getD 0)) → Ok (m7_readsPlayers_L14 Eb Ee f (nI n) (nI i) σ) Q := by
  intro k
  induction k with
  | zero =>
    intro i hi f hf σ hF hok hc he
    obtain ⟨f, rfl⟩ : ∃ m, f = m + 1 := ⟨f - 1, by omega⟩
    show Ok (m7_readsPlayers_L14b _ _ _ _ _ σ) Q
    unfold m7_readsPlayers_L14b
    rw [if_pos (nI_le (by omega) (by omega))]
    have e : i = n := by omega
    subst e
    exact hEe σ hok hF hc he
  | succ k ih =>
    intro i hi f hf σ hF hok hc he
    obtain ⟨f, rfl⟩ : ∃ m, f = m + 1 := ⟨f - 1, by omega⟩
    obtain ⟨b1, b2⟩ := hb i (by omega)
    have hb66 : σ 66 (i) = nI (b i) := by rw [hF.1 66 (by omega) (by omega)]; exact b1
    show Ok (m7_readsPlayers_L14b _ _ _ _ _ σ) Q
    unfold m7_readsPlayers_L14b
    rw [if_neg (nI_ge (by omega) (by omega)), dv_ne (by decide)]
    simp (disch := omega) only [rem3', lt_eq, rem3, gd_nI, sy_ix, ix_nI, hb66, m7_playerOf_eq, bd_some]
    by_cases c : sp_ok 0 b i
    · rw [if_neg (fun q => ((sp_w9_9 _ (fun v hv => by have := sp_v_lt b2 hv; omega)).mp q) c)]
      obtain ⟨v, hv⟩ := Option.isSome_iff_exists.mp c
      have hok' : ∀ j, j < i + 1 → sp_ok 0 b j := fun j hj => by
        by_cases e : j = i
        · subst e; exact c
        · exact hok j (by omega)
      have j68 : ∀ σ1, rpF σ0 σ1 → σ1 61 7 = nI ((i + 1) / 3) → (∀ j, j < i + 1 → j % 3 < 2 → σ1 68 (2 * (j / 3) + j % 3) = nI ((sp_v 0 (j % 3) (b j)).getD 0)) → Ok (m7_readsPlayers_J68 (m7_readsPlayers_L14 Eb Ee f) Eb Ee (nI n) (nI i) (nI (i % 3)) σ1) Q := by
        intro σ1 hF1 hc1 he1
        unfold m7_readsPlayers_J68
        simp (disch := omega) only [nI_e1, lt_eq, nI_1, nI_a0]
        have fr : ∀ x : Int32, rpF σ1 (sy_sf σ1 61 7 x) := fun x => ⟨fun q h1 h2 => sf_n h1, fun j hj => sf_sn hj⟩
        by_cases c1 : i % 3 = 1
        · rw [if_pos c1, hc1, nI_1]
          refine ih (i + 1) (by omega) f (by omega) _ (hF1.tr (fr _)) hok' ?_ (fun j hj hq => ?_)
          · rw [sf_ss]; congr 1; omega
          · rw [sf_n (by omega)]; exact he1 j hj hq
        · rw [if_neg c1, hc1]
          refine ih (i + 1) (by omega) f (by omega) _ (hF1.tr (fr _)) hok' ?_ (fun j hj hq => ?_)
          · rw [sf_ss]; congr 1; omega
          · rw [sf_n (by omega)]; exact he1 j hj hq
      by_cases c2 : i % 3 < 2
      · rw [show (2 : Int32) = nI 2 from rfl, if_neg (nI_ge c2 (by omega)), dv_ne (by decide), div3 (by omega), pk_mul, nI_add]
        simp (disch := omega) only [gd_nI, sy_ix, ix_nI, lt_eq, div3, pk_mul, nI_add]
        refine j68 _ (hF.tr ⟨fun q h1 h2 => sf_n h2, fun j hj => by rw [sf_n (by omega)]⟩) ?_ (fun j hj hq => ?_)
        · rw [sf_n (by omega)]; exact hc
        · rw [sf_at]
          by_cases e : j = i
          · subst e
            rw [if_pos ⟨rfl, rfl⟩, hv]; rfl
          · rw [if_neg (fun z => by have := z.2; omega)]
            exact he j (by omega) hq
      · rw [show (2 : Int32) = nI 2 from rfl, if_pos (nI_le (by omega) (by omega))]
        exact j68 σ hF hc (fun j hj hq => he j (by
          by_cases e : j = i
          · subst e; omega
          · omega) hq)
    · rw [if_pos ((sp_w9_9 _ (fun v hv => by have := sp_v_lt b2 hv; omega)).mpr c)]
      exact hEb σ i (by omega) hok c hF
/-- reading the text: its fault, how many things it has, which -/
theorem m7_readsPlayers_sp {σ : St} {n : Nat} {b : Nat → Nat} (hn : n ≤ 32) (hs : σ 67 0 = nI n) (hb : ∀ j, j < n → σ 66 (j) = nI (b j) ∧ b j < 256) : Ok (m7_readsPlayers σ) (fun x σ' => x = sp_flt 0 n b ∧ rpF σ σ' ∧ σ' 61 7 = nI (sp_th 0 n b) ∧ ∀ i, i < sp_th 0 n b → σ' 68 (2 * i) = nI (sp_val 0 b 0 i) ∧ σ' 68 (2 * i + 1) = nI (sp_val 0 b 1 i)) := by
  unfold m7_readsPlayers
  rw [lt_eq, gd_in (by show ¬ ((0 : Int32) < 0 ∨ 2 ≤ (0 : Int32).toNatClampNeg); decide), show sy_ix 0 = 0 from by decide, lt_eq, sf_n (by omega), hs]
  have hb1 : ∀ j, j < n → sy_sf σ 61 7 0 66 (j) = nI (b j) ∧ b j < 256 := fun j hj => by rw [sf_n (by omega)]; exact hb j hj
  have hf0 : rpF σ (sy_sf σ 61 7 0) := ⟨fun q h1 h2 => sf_n h1, fun j hj => sf_sn hj⟩
  refine m7_readsPlayers_loop hn hb1 _ _ (fun σ1 i hi hok hno hF => ?_) (fun σ1 hok hF hc he => ?_) n 0 (by omega) sy_FU (by show _ < 1000; omega) _ rpF.rf (fun j hj => by omega) (by rw [sf_ss]; rfl) (fun j hj => by omega)
  · have hff := sp_ff_at hok hno n hi
    have e1 : sp_flt 0 n b = nI i := by unfold sp_flt; rw [hff, if_pos hi]
    have e2 : sp_th 0 n b = 0 := by unfold sp_th; rw [if_neg (fun q => by have := q.1; omega)]
    rw [e1, e2]
    exact ok_some ⟨rfl, (hf0.tr hF).tr ⟨fun q h1 h2 => sf_n h1, fun j hj => sf_sn hj⟩, sf_ss _ _ _ _, fun i hi => by omega⟩
  · have hff := sp_ff_all n hok
    by_cases c : sp_end n
    · have e1 : sp_flt 0 n b = -1 := by unfold sp_flt; rw [hff, if_neg (by omega), if_pos c]
      have e2 : sp_th 0 n b = (n + 1) / 3 := by unfold sp_th; rw [if_pos ⟨hff, c⟩]
      have fin : Ok (some ((-1 : Int32), σ1)) (fun x σ' => x = sp_flt 0 n b ∧ rpF σ σ' ∧ σ' 61 7 = nI (sp_th 0 n b) ∧ ∀ i, i < sp_th 0 n b → σ' 68 (2 * i) = nI (sp_val 0 b 0 i) ∧ σ' 68 (2 * i + 1) = nI (sp_val 0 b 1 i)) := by
        rw [e1, e2]
        refine ok_some ⟨rfl, hf0.tr hF, hc, fun i hi => ?_⟩
        have h0 := he (3 * i) (by omega) (by omega)
        have h1 := he (3 * i + 1) (by omega) (by omega)
        rw [show 2 * (3 * i / 3) + 3 * i % 3 = 2 * i by omega, show 3 * i % 3 = 0 by omega] at h0
        rw [show 2 * ((3 * i + 1) / 3) + (3 * i + 1) % 3 = 2 * i + 1 by omega, show (3 * i + 1) % 3 = 1 by omega] at h1
        exact ⟨h0, h1⟩
      show Ok (if nI n ≤ 0 then _ else _) _
      by_cases c0 : n = 0
      · rw [if_pos (by rw [c0]; decide)]
        exact fin
      · rw [if_neg (nI_nle (by omega) (by omega)), dv_ne (by decide), rem3 (by omega), if_pos (by rw [show n % 3 = 2 by omega]; rfl)]
        exact fin
    · have e1 : sp_flt 0 n b = nI n := by unfold sp_flt; rw [hff, if_neg (by omega), if_neg c]
      have e2 : sp_th 0 n b = 0 := by unfold sp_th; rw [if_neg (fun q => c q.2)]
      show Ok (if nI n ≤ 0 then _ else _) _
      rw [if_neg (nI_nle (by omega) (by omega)), dv_ne (by decide), rem3 (by omega), if_neg (fun q => by have := (nI_e2 (by omega)).mp q; omega), lt_eq, e1, e2]
      exact ok_some ⟨rfl, (hf0.tr hF).tr ⟨fun q h1 h2 => sf_n h1, fun j hj => sf_sn hj⟩, sf_ss _ _ _ _, fun i hi => by omega⟩
/-- what reading a text of the reference changes -/
def rnF (σ0 σ : St) : Prop := (∀ k, k ≠ 61 → k ≠ 69 → σ k = σ0 k) ∧ ∀ j, j ≠ 9 → σ 61 j = σ0 61 j
theorem rnF.rf {σ : St} : rnF σ σ := ⟨fun _ _ _ => rfl, fun _ _ => rfl⟩
theorem rnF.tr {a b c : St} (h : rnF a b) (g : rnF b c) : rnF a c := ⟨fun k p q => (g.1 k p q).trans (h.1 k p q), fun j q => (g.2 j q).trans (h.2 j q)⟩
theorem m7_readsNotes_loop {σ0 : St} {n : Nat} {b : Nat → Nat} {Q : Int32 → St → Prop} (hn : n ≤ 47) (hb : ∀ j, j < n → σ0 66 (48 + j) = nI (b j) ∧ b j < 256) (Eb Ee : Int32 → St → Option (Int32 × St)) (hEb : ∀ σ i, i < n → (∀ j, j < i → sp_ok 1 b j) → ¬ sp_ok 1 b i → rnF σ0 σ → Ok (Eb (nI i) σ) Q)
    (hEe : ∀ σ, (∀ j, j < n → sp_ok 1 b j) → rnF σ0 σ → σ 61 9 = nI ((n + 1) / 3) → (∀ j, j < n → j % 3 < 2 → σ 69 (2 * (j / 3) + j % 3) = nI ((sp_v 1 (j % 3) (b j)).getD 0)) → Ok (Ee (nI n) σ) Q) :
    ∀ (k i : Nat), i + k = n → ∀ f, k < f → ∀ σ, rnF σ0 σ → (∀ j, j < i → sp_ok 1 b j) → σ 61 9 = nI ((i + 1) / 3) → (∀ j, j < i → j % 3 < 2 → σ 69 (2 * (j / 3) + j % 3) = nI ((sp_v 1 (j % 3) (b j)).getD 0)) → Ok (m7_readsNotes_L14 Eb Ee f (nI n) (nI i) σ) Q := by
  intro k
  induction k with
  | zero =>
    intro i hi f hf σ hF hok hc he
    obtain ⟨f, rfl⟩ : ∃ m, f = m + 1 := ⟨f - 1, by omega⟩
    show Ok (m7_readsNotes_L14b _ _ _ _ _ σ) Q
    unfold m7_readsNotes_L14b
    rw [if_pos (nI_le (by omega) (by omega))]
    have e : i = n := by omega
    subst e
    exact hEe σ hok hF hc he
  | succ k ih =>
    intro i hi f hf σ hF hok hc he
    obtain ⟨f, rfl⟩ : ∃ m, f = m + 1 := ⟨f - 1, by omega⟩
    obtain ⟨b1, b2⟩ := hb i (by omega)
    have hb66 : σ 66 (48 + i) = nI (b i) := by rw [hF.1 66 (by omega) (by omega)]; exact b1
    show Ok (m7_readsNotes_L14b _ _ _ _ _ σ) Q
    unfold m7_readsNotes_L14b
    rw [if_neg (nI_ge (by omega) (by omega)), dv_ne (by decide)]
    simp (disch := omega) only [nI_48a, lt_eq, rem3, gd_nI, sy_ix, ix_nI, hb66, m7_noteOf_eq, bd_some]
    by_cases c : sp_ok 1 b i
    · rw [if_neg (fun q => ((sp_w9_9 _ (fun v hv => by have := sp_v_lt b2 hv; omega)).mp q) c)]
      obtain ⟨v, hv⟩ := Option.isSome_iff_exists.mp c
      have hok' : ∀ j, j < i + 1 → sp_ok 1 b j := fun j hj => by
        by_cases e : j = i
        · subst e; exact c
        · exact hok j (by omega)
      have j68 : ∀ σ1, rnF σ0 σ1 → σ1 61 9 = nI ((i + 1) / 3) → (∀ j, j < i + 1 → j % 3 < 2 → σ1 69 (2 * (j / 3) + j % 3) = nI ((sp_v 1 (j % 3) (b j)).getD 0)) → Ok (m7_readsNotes_J71 (m7_readsNotes_L14 Eb Ee f) Eb Ee (nI n) (nI i) (nI (i % 3)) σ1) Q := by
        intro σ1 hF1 hc1 he1
        unfold m7_readsNotes_J71
        simp (disch := omega) only [nI_e1, lt_eq, nI_1, nI_a0]
        have fr : ∀ x : Int32, rnF σ1 (sy_sf σ1 61 9 x) := fun x => ⟨fun q h1 h2 => sf_n h1, fun j hj => sf_sn hj⟩
        by_cases c1 : i % 3 = 1
        · rw [if_pos c1, hc1, nI_1]
          refine ih (i + 1) (by omega) f (by omega) _ (hF1.tr (fr _)) hok' ?_ (fun j hj hq => ?_)
          · rw [sf_ss]; congr 1; omega
          · rw [sf_n (by omega)]; exact he1 j hj hq
        · rw [if_neg c1, hc1]
          refine ih (i + 1) (by omega) f (by omega) _ (hF1.tr (fr _)) hok' ?_ (fun j hj hq => ?_)
          · rw [sf_ss]; congr 1; omega
          · rw [sf_n (by omega)]; exact he1 j hj hq
      by_cases c2 : i % 3 < 2
      · rw [show (2 : Int32) = nI 2 from rfl, if_neg (nI_ge c2 (by omega)), dv_ne (by decide), div3 (by omega), pk_mul, nI_add]
        simp (disch := omega) only [gd_nI, sy_ix, ix_nI, lt_eq, div3, pk_mul, nI_add]
        refine j68 _ (hF.tr ⟨fun q h1 h2 => sf_n h2, fun j hj => by rw [sf_n (by omega)]⟩) ?_ (fun j hj hq => ?_)
        · rw [sf_n (by omega)]; exact hc
        · rw [sf_at]
          by_cases e : j = i
          · subst e
            rw [if_pos ⟨rfl, rfl⟩, hv]; rfl
          · rw [if_neg (fun z => by have := z.2; omega)]
            exact he j (by omega) hq
      · rw [show (2 : Int32) = nI 2 from rfl, if_pos (nI_le (by omega) (by omega))]
        exact j68 σ hF hc (fun j hj hq => he j (by
          by_cases e : j = i
          · subst e; omega
          · omega) hq)
    · rw [if_pos ((sp_w9_9 _ (fun v hv => by have := sp_v_lt b2 hv; omega)).mpr c)]
      exact hEb σ i (by omega) hok c hF
/-- reading the text: its fault, how many things it has, which -/
theorem m7_readsNotes_sp {σ : St} {n : Nat} {b : Nat → Nat} (hn : n ≤ 47) (hs : σ 67 1 = nI n) (hb : ∀ j, j < n → σ 66 (48 + j) = nI (b j) ∧ b j < 256) : Ok (m7_readsNotes σ) (fun x σ' => x = sp_flt 1 n b ∧ rnF σ σ' ∧ σ' 61 9 = nI (sp_th 1 n b) ∧ ∀ i, i < sp_th 1 n b → σ' 69 (2 * i) = nI (sp_val 1 b 0 i) ∧ σ' 69 (2 * i + 1) = nI (sp_val 1 b 1 i)) := by
  unfold m7_readsNotes
  rw [lt_eq, gd_in (by show ¬ ((1 : Int32) < 0 ∨ 2 ≤ (1 : Int32).toNatClampNeg); decide), show sy_ix 1 = 1 from by decide, lt_eq, sf_n (by omega), hs]
  have hb1 : ∀ j, j < n → sy_sf σ 61 9 0 66 (48 + j) = nI (b j) ∧ b j < 256 := fun j hj => by rw [sf_n (by omega)]; exact hb j hj
  have hf0 : rnF σ (sy_sf σ 61 9 0) := ⟨fun q h1 h2 => sf_n h1, fun j hj => sf_sn hj⟩
  refine m7_readsNotes_loop hn hb1 _ _ (fun σ1 i hi hok hno hF => ?_) (fun σ1 hok hF hc he => ?_) n 0 (by omega) sy_FU (by show _ < 1000; omega) _ rnF.rf (fun j hj => by omega) (by rw [sf_ss]; rfl) (fun j hj => by omega)
  · have hff := sp_ff_at hok hno n hi
    have e1 : sp_flt 1 n b = nI i := by unfold sp_flt; rw [hff, if_pos hi]
    have e2 : sp_th 1 n b = 0 := by unfold sp_th; rw [if_neg (fun q => by have := q.1; omega)]
    rw [e1, e2]
    exact ok_some ⟨rfl, (hf0.tr hF).tr ⟨fun q h1 h2 => sf_n h1, fun j hj => sf_sn hj⟩, sf_ss _ _ _ _, fun i hi => by omega⟩
  · have hff := sp_ff_all n hok
    by_cases c : sp_end n
    · have e1 : sp_flt 1 n b = -1 := by unfold sp_flt; rw [hff, if_neg (by omega), if_pos c]
      have e2 : sp_th 1 n b = (n + 1) / 3 := by unfold sp_th; rw [if_pos ⟨hff, c⟩]
      have fin : Ok (some ((-1 : Int32), σ1)) (fun x σ' => x = sp_flt 1 n b ∧ rnF σ σ' ∧ σ' 61 9 = nI (sp_th 1 n b) ∧ ∀ i, i < sp_th 1 n b → σ' 69 (2 * i) = nI (sp_val 1 b 0 i) ∧ σ' 69 (2 * i + 1) = nI (sp_val 1 b 1 i)) := by
        rw [e1, e2]
        refine ok_some ⟨rfl, hf0.tr hF, hc, fun i hi => ?_⟩
        have h0 := he (3 * i) (by omega) (by omega)
        have h1 := he (3 * i + 1) (by omega) (by omega)
        rw [show 2 * (3 * i / 3) + 3 * i % 3 = 2 * i by omega, show 3 * i % 3 = 0 by omega] at h0
        rw [show 2 * ((3 * i + 1) / 3) + (3 * i + 1) % 3 = 2 * i + 1 by omega, show (3 * i + 1) % 3 = 1 by omega] at h1
        exact ⟨h0, h1⟩
      show Ok (if nI n ≤ 0 then _ else _) _
      by_cases c0 : n = 0
      · rw [if_pos (by rw [c0]; decide)]
        exact fin
      · rw [if_neg (nI_nle (by omega) (by omega)), dv_ne (by decide), rem3 (by omega), if_pos (by rw [show n % 3 = 2 by omega]; rfl)]
        exact fin
    · have e1 : sp_flt 1 n b = nI n := by unfold sp_flt; rw [hff, if_neg (by omega), if_neg c]
      have e2 : sp_th 1 n b = 0 := by unfold sp_th; rw [if_neg (fun q => c q.2)]
      show Ok (if nI n ≤ 0 then _ else _) _
      rw [if_neg (nI_nle (by omega) (by omega)), dv_ne (by decide), rem3 (by omega), if_neg (fun q => by have := (nI_e2 (by omega)).mp q; omega), lt_eq, e1, e2]
      exact ok_some ⟨rfl, (hf0.tr hF).tr ⟨fun q h1 h2 => sf_n h1, fun j hj => sf_sn hj⟩, sf_ss _ _ _ _, fun i hi => by omega⟩
