/-! ===== promise 28: chances ===== -/
/-- the weight of one way: of n events those in w are not -/
def sp_pw (c w : Nat) : Nat → Nat
  | 0 => 1
  | n + 1 => sp_pw c w n * (if w.testBit n then 16 - c else c)
theorem sp_pw_s (c w n : Nat) : sp_pw c w (n + 1) = sp_pw c w n * (if w.testBit n then 16 - c else c) := rfl
/-- how many of the first n bits there are -/
def sp_pc (w : Nat) : Nat → Nat
  | 0 => 0
  | n + 1 => sp_pc w n + (if w.testBit n then 1 else 0)
theorem sp_pc_s (w n : Nat) : sp_pc w (n + 1) = sp_pc w n + (if w.testBit n then 1 else 0) := rfl
theorem sp_pc_le (w : Nat) : ∀ n, sp_pc w n ≤ n
  | 0 => Nat.le_refl 0
  | n + 1 => by
    have := sp_pc_le w n
    rw [sp_pc_s]
    split <;> omega
def sp_wt (c b : Nat) : Nat → Nat
  | 0 => 1
  | n + 1 => sp_wt c b n * (if n < b then 16 - c else c)
theorem sp_wt_s (c b n : Nat) : sp_wt c b (n + 1) = sp_wt c b n * (if n < b then 16 - c else c) := rfl
theorem sp_wt_pow (c b : Nat) : ∀ n, sp_wt c b n = (16 - c) ^ (min b n) * c ^ (n - min b n)
  | 0 => by
    rw [show min b 0 = 0 by omega]
    rfl
  | n + 1 => by
    rw [sp_wt_s, sp_wt_pow c b n]
    by_cases h : n < b
    · rw [if_pos h, show min b n = n by omega, show min b (n + 1) = n + 1 by omega, show n - n = 0 by omega, show n + 1 - (n + 1) = 0 by omega, Nat.pow_zero, Nat.mul_one, Nat.mul_one, Nat.pow_succ]
    · rw [if_neg h, show min b n = b by omega, show min b (n + 1) = b by omega, show n + 1 - b = (n - b) + 1 by omega, Nat.pow_succ, Nat.mul_assoc]
theorem sp_pw_pow (c w : Nat) : ∀ n, sp_pw c w n = (16 - c) ^ (sp_pc w n) * c ^ (n - sp_pc w n)
  | 0 => rfl
  | n + 1 => by
    have hl := sp_pc_le w n
    rw [sp_pw_s, sp_pc_s, sp_pw_pow c w n]
    by_cases h : w.testBit n = true
    · rw [if_pos h, if_pos h, show n + 1 - (sp_pc w n + 1) = n - sp_pc w n by omega, Nat.pow_succ, Nat.mul_assoc, Nat.mul_assoc, Nat.mul_comm (c ^ _) (16 - c)]
    · rw [if_neg h, if_neg h, Nat.add_zero, show n + 1 - sp_pc w n = (n - sp_pc w n) + 1 by omega, Nat.pow_succ, Nat.mul_assoc]
theorem sp_wt_pw (c w n : Nat) : sp_wt c (sp_pc w n) n = sp_pw c w n := by
  have hl := sp_pc_le w n
  rw [sp_wt_pow, sp_pw_pow, show min (sp_pc w n) n = sp_pc w n by omega]
theorem sp_pc_up {w n : Nat} (hw : w < 2 ^ n) : ∀ k, sp_pc w (n + k) = sp_pc w n
  | 0 => rfl
  | k + 1 => by
    have h : w < 2 ^ (n + k) := Nat.lt_of_lt_of_le hw (Nat.pow_le_pow_right (by omega) (by omega))
    show sp_pc w (n + k) + (if w.testBit (n + k) then 1 else 0) = _
    rw [Nat.testBit_lt_two_pow h, sp_pc_up hw k]
    rfl
theorem sp_pw_le {c w : Nat} (hc : c ≤ 16) : ∀ n, sp_pw c w n ≤ 16 ^ n
  | 0 => Nat.le_refl 1
  | n + 1 => by
    rw [sp_pw_s, Nat.pow_succ]
    exact Nat.mul_le_mul (sp_pw_le hc n) (by split <;> omega)
/-- of all ways, of the first w, those in which it sounds -/
def sp_uw (B : Bd) (c i : Nat) : Nat → Nat
  | 0 => 0
  | w + 1 => sp_uw B c i w + (if rSt (sp_run (sp_setG B (nI w)) 24) i ≤ 0 then 0 else sp_pw c w (bE B))
theorem sp_uw_s (B : Bd) (c i w : Nat) : sp_uw B c i (w + 1) = sp_uw B c i w + (if rSt (sp_run (sp_setG B (nI w)) 24) i ≤ 0 then 0 else sp_pw c w (bE B)) := rfl
theorem sp_uw_le {B : Bd} {c i : Nat} (hc : c ≤ 16) (hE : bE B ≤ 8) : ∀ w, sp_uw B c i w ≤ w * 2 ^ 32
  | 0 => Nat.zero_le _
  | w + 1 => by
    have h1 := sp_uw_le (B := B) (i := i) hc hE w
    have h2 : sp_pw c w (bE B) ≤ 2 ^ 32 := Nat.le_trans (sp_pw_le hc _) (Nat.le_trans (Nat.pow_le_pow_right (by omega) hE) (by decide))
    rw [sp_uw_s, Nat.add_mul, Nat.one_mul]
    refine Nat.add_le_add h1 ?_
    by_cases q : rSt (sp_run (sp_setG B (nI w)) 24) i ≤ 0
    · rw [if_pos q]; exact Nat.zero_le _
    · rw [if_neg q]; exact h2
def sp_ab (B : Bd) (c i : Nat) : Nat := sp_uw B c i (2 ^ bE B)
theorem two_E {e : Nat} (h : e ≤ 8) : 2 ^ e ≤ 256 := Nat.le_trans (Nat.pow_le_pow_right (by omega) h) (by decide)
theorem sp_ab_lt {B : Bd} {c i : Nat} (hc : c ≤ 16) (hE : bE B ≤ 8) : sp_ab B c i < 2 ^ 62 := by
  have h1 := sp_uw_le (B := B) (i := i) hc hE (2 ^ bE B)
  have h2 := two_E hE
  unfold sp_ab
  omega
def sp_be (B : Bd) : Nat := 2 ^ (4 * bE B)
theorem sp_be_lt {B : Bd} (hE : bE B ≤ 8) : sp_be B < 2 ^ 62 := Nat.lt_of_le_of_lt (Nat.pow_le_pow_right (n := 2) (by omega) (show 4 * bE B ≤ 32 by omega)) (by decide)
theorem sp_be_pos (B : Bd) : 0 < sp_be B := Nat.pow_pos (by omega)
def sp_ch (B : Bd) (c i : Nat) (x : Int32) : Int64 := if x = 0 then lN (sp_ab B c i / Nat.gcd (sp_ab B c i) (sp_be B)) else lN (sp_be B / Nat.gcd (sp_ab B c i) (sp_be B))
def an_chance (T : Td) (c i x : Int32) : Int64 := if (0 ≤ c ∧ c ≤ 16) ∧ (0 ≤ i ∧ i ≤ nI (bN (sp_told T)) - 1) ∧ (0 ≤ x ∧ x ≤ 1) then sp_ch (sp_told T) (sy_ix c) (sy_ix i) x else -9223372036854775806
theorem bit_t1 {t m : Nat} (h : t < 31) (hm : m < 2 ^ 31) : sp_bit (nI m) t = 1 ↔ m.testBit t = true := by
  rw [bit_n h hm, show (1 : Int32) = nI 1 from rfl, nI_eq (by omega) (by omega), Nat.testBit_eq_decide_div_mod_eq]
  simp
theorem n16_sub {c : Nat} (h : c ≤ 16) : (16 : Int32) - nI c = nI (16 - c) := pk_sub (a := 16) h
theorem sh_64 : ∀ e, e < 9 → (1 : Int64) <<< (Int32.toInt64 (4 * nI e) &&& 63) = lN (2 ^ (4 * e)) := by decide +kernel
theorem dl_ne {γ : Type} {y : Int64} {r : Option γ} (h : ¬ y = 0) : sy_dl y r = r := if_neg h
theorem lN_e0 {a : Nat} (h : a < 2 ^ 63) : lN a = 0 ↔ a = 0 := pk_lEQ (b := 0) h (by decide)
/-! the class's -/
def bcV (x : Int32) : Int32 := ((mj6_bitCount_0f7a4 x (fun _ _ => 0)).map (fun q => q.1)).getD 0
theorem bc_eq (x : Int32) (σ : St) : mj6_bitCount_0f7a4 x σ = some (bcV x, σ) := rfl
theorem bc_256 : ∀ w, w < 256 → bcV (nI w) = nI (sp_pc w 8) := by decide +kernel
theorem m6_weight_loop {σ : St} {c b E : Nat} (hc : c ≤ 16) (hb : b ≤ 8) (hE : E ≤ 8) (h : σ 5 10 = nI E) : ∀ (k e : Nat), e + k = E → ∀ n, k < n → m6_weight_L5 (fun y7 σ8 => some (y7, σ8)) n (nI c) (nI b) (lN (sp_wt c b e)) (nI e) σ = some (lN (sp_wt c b E), σ) := by
  intro k
  induction k with
  | zero =>
    intro e he n hn
    obtain ⟨n, rfl⟩ : ∃ m, n = m + 1 := ⟨n - 1, by omega⟩
    show m6_weight_L5b _ _ _ _ _ _ σ = _
    unfold m6_weight_L5b
    rw [h, if_pos (nI_le (by omega) (by omega)), show e = E by omega]
  | succ k ih =>
    intro e he n hn
    obtain ⟨n, rfl⟩ : ∃ m, n = m + 1 := ⟨n - 1, by omega⟩
    have hk := ih (e + 1) (by omega) n (by omega)
    rw [sp_wt_s] at hk
    show m6_weight_L5b _ _ _ _ _ _ σ = _
    unfold m6_weight_L5b
    rw [h, if_neg (nI_ge (by omega) (by omega)), lt_eq, lt_eq, nI_1, n16_sub hc, nI_l (by omega), nI_l (by omega), lN_mul, lN_mul]
    by_cases d : b ≤ e
    · rw [if_pos (nI_le d (by omega))]
      rw [if_neg (by omega)] at hk
      exact hk
    · rw [if_neg (nI_ge (by omega) (by omega))]
      rw [if_pos (by omega)] at hk
      exact hk
theorem m6_weight_eq {σ : St} {c w E : Nat} (hc : c ≤ 16) (hE : E ≤ 8) (hw : w < 2 ^ E) (h : σ 5 10 = nI E) : m6_weight (nI c) (nI (sp_pc w 8)) σ = some (lN (sp_pw c w E), σ) := by
  have e8 : sp_pc w 8 = sp_pc w E := by
    have := sp_pc_up hw (8 - E)
    rw [show E + (8 - E) = 8 by omega] at this
    exact this
  have hl := sp_pc_le w 8
  have e := m6_weight_loop (σ := σ) (c := c) (b := sp_pc w 8) hc hl hE h E 0 (Nat.zero_add _) sy_FU (by show _ < 1000; omega)
  unfold m6_weight
  refine Eq.trans e ?_
  rw [e8, sp_wt_pw]
theorem m6_above_loop {σ : St} {B : Bd} {c i : Nat} {x : Int32} {E : Int32 → Int64 → St → Option (Int64 × St)} (ho : okB B) (hc : c ≤ 16) (hi : i < 16) (h10 : σ 5 10 = nI (bE B)) (h50 : ∀ w, w < 2 ^ bE B → σ 50 w = rBit (sp_run (sp_setG B (nI w)) 24)) : ∀ (k w : Nat), w + k = 2 ^ bE B → ∀ n, k < n → m6_chance_L59 E n (nI c) (nI i) x (lN (sp_uw B c i w)) (nI (2 ^ bE B)) (nI w) σ = E x (lN (sp_ab B c i)) σ := by
  have hE := ho.2.2.1
  have h2 := two_E hE
  intro k
  induction k with
  | zero =>
    intro w hw n hn
    obtain ⟨n, rfl⟩ : ∃ m, n = m + 1 := ⟨n - 1, by omega⟩
    show m6_chance_L59b _ _ _ _ _ _ _ _ σ = _
    unfold m6_chance_L59b
    rw [if_pos (nI_le (by omega) (by omega)), show w = 2 ^ bE B by omega]
    rfl
  | succ k ih =>
    intro w hw n hn
    obtain ⟨n, rfl⟩ : ∃ m, n = m + 1 := ⟨n - 1, by omega⟩
    have hk := ih (w + 1) (by omega) n (by omega)
    obtain ⟨m, m1, m2, m3⟩ := (sp_ag_run (B := sp_setG B (nI w)) ho.2.1 24).2.1
    have hb := bit_tb (t := i) (m := m) (by omega) (by omega)
    rw [m3 i] at hb
    rw [sp_uw_s] at hk
    show m6_chance_L59b _ _ _ _ _ _ _ _ σ = _
    unfold m6_chance_L59b
    rw [if_neg (nI_ge (by omega) (by omega)), gd_nI (by omega) (by omega), show sy_ix (nI w) = w from nI_clamp (by omega), h50 w (by omega), m2, nI_1]
    by_cases q : rSt (sp_run (sp_setG B (nI w)) 24) i ≤ 0
    · rw [if_pos (show sp_bit (nI m) i = 0 from hb.mpr (by simp [q]))]
      rw [if_pos q, Nat.add_zero] at hk
      exact hk
    · rw [if_neg (show ¬ sp_bit (nI m) i = 0 from fun z => by have := hb.mp z; simp [q] at this)]
      rw [if_neg q] at hk
      rw [bc_eq, bd_some, bc_256 w (by omega), m6_weight_eq hc hE (by omega) h10, bd_some, lt_eq, lN_add]
      exact hk
theorem gcd_odd {a : Nat} (h : a % 2 = 1) (j : Nat) : Nat.gcd a (2 ^ j) = 1 := by
  have h2 : Nat.Coprime a 2 := by
    show Nat.gcd a 2 = 1
    rw [Nat.gcd_comm, Nat.gcd_rec, h]
    exact Nat.gcd_one_left 2
  exact Nat.Coprime.pow_right j h2
theorem gcd_even {a : Nat} (h : a % 2 = 0) (j : Nat) : Nat.gcd a (2 ^ (j + 1)) = 2 * Nat.gcd (a / 2) (2 ^ j) := by
  have e : a = 2 * (a / 2) := by omega
  rw [Nat.pow_succ, Nat.mul_comm (2 ^ j) 2]
  conv => lhs; rw [e]
  exact Nat.gcd_mul_left 2 (a / 2) (2 ^ j)
theorem gcd_h {a : Nat} (h : a % 2 = 0) (j : Nat) : a / Nat.gcd a (2 ^ (j + 1)) = a / 2 / Nat.gcd (a / 2) (2 ^ j) ∧ 2 ^ (j + 1) / Nat.gcd a (2 ^ (j + 1)) = 2 ^ j / Nat.gcd (a / 2) (2 ^ j) := by
  rw [gcd_even h j]
  refine ⟨(Nat.div_div_eq_div_mul a 2 _).symm, ?_⟩
  rw [Nat.pow_succ, Nat.mul_comm (2 ^ j) 2]
  exact Nat.mul_div_mul_left _ _ (by omega)
theorem m6_halve_loop {σ : St} {K : Nat} {x : Int32} {E : Int32 → Int64 → Int64 → St → Option (Int64 × St)} (hK : K ≤ 32) : ∀ (j k : Nat), k + j = K → ∀ n, j < n → ∀ a, a < 2 ^ 62 → m6_chance_L121 E n x (lN a) (nI K) (lN (2 ^ j)) (nI k) σ = E x (lN (a / Nat.gcd a (2 ^ j))) (lN (2 ^ j / Nat.gcd a (2 ^ j))) σ := by
  intro j
  induction j with
  | zero =>
    intro k hk n hn a ha
    obtain ⟨n, rfl⟩ : ∃ m, n = m + 1 := ⟨n - 1, by omega⟩
    show m6_chance_L121b _ _ _ _ _ _ _ σ = _
    unfold m6_chance_L121b
    rw [if_pos (nI_le (by omega) (by omega)), Nat.pow_zero, Nat.gcd_one_right, Nat.div_one, Nat.div_one]
  | succ j ih =>
    intro k hk n hn a ha
    obtain ⟨n, rfl⟩ : ∃ m, n = m + 1 := ⟨n - 1, by omega⟩
    have h32 : 2 ^ (j + 1) < 2 ^ 62 := Nat.lt_of_le_of_lt (Nat.pow_le_pow_right (n := 2) (by omega) (show j + 1 ≤ 32 by omega)) (by decide)
    have h1 := ih (k + 1) (by omega) n (by omega) (a / 2) (by omega)
    have er : lN a - lN a / 2 * 2 = lN (a % 2) := pk_lRem (b := 2) (by omega) (by omega) (by omega)
    have ed : lN a / 2 = lN (a / 2) := pk_lDiv (b := 2) (by omega) (by omega) (by omega)
    have ep : lN (2 ^ (j + 1)) / 2 = lN (2 ^ j) := by
      have := pk_lDiv (a := 2 ^ (j + 1)) (b := 2) (by omega) (by omega) (by omega)
      rw [show 2 ^ (j + 1) / 2 = 2 ^ j by rw [Nat.pow_succ]; omega] at this
      exact this
    show m6_chance_L121b _ _ _ _ _ _ _ σ = _
    unfold m6_chance_L121b
    rw [if_neg (nI_ge (by omega) (by omega)), dl_ne (by decide), er]
    by_cases c : a % 2 = 0
    · rw [if_pos (lg_zero.mpr (by rw [c]; rfl)), dl_ne (by decide), lt_eq, dl_ne (by decide), lt_eq, ed, ep, nI_1, h1, (gcd_h c j).1, (gcd_h c j).2]
    · rw [if_neg (fun q => c ((lN_e0 (by omega)).mp (lg_zero.mp q))), gcd_odd (by omega), Nat.div_one, Nat.div_one]
def chC (a1 a2 a3 : Int32) (σ : St) : Option (Int64 × St) := sy_lt (1 <<< ((σ 5 10) &&& 31)) (fun v7 => m6_chance_L59 (fun y19 y20 σ21 => sy_lt (4 * (σ21 5 10)) (fun v22 => sy_lt (1 <<< (Int32.toInt64 v22 &&& 63)) (fun v23 => m6_chance_L121 (fun y31 y32 y33 σ34 => if y31 = 0 then (some (y32, σ34)) else (some (y33, σ34))) sy_FU y19 y20 v22 v23 0 σ21))) sy_FU a1 a2 a3 0 v7 0 σ)
theorem chC_eq {σ : St} {B : Bd} {c i e : Nat} {x : Int32} (ho : okB B) (he : bE B = e) (hc : c ≤ 16) (hi : i < 16) (h10 : σ 5 10 = nI e) (h50 : ∀ w, w < 2 ^ e → σ 50 w = rBit (sp_run (sp_setG B (nI w)) 24)) : chC (nI c) (nI i) x σ = some (sp_ch B c i x, σ) := by
  subst he
  have hE := ho.2.2.1
  have h2 := two_E hE
  unfold chC
  rw [lt_eq, h10, sh_1 (by omega)]
  have e := m6_above_loop (σ := σ) (B := B) (c := c) (i := i) (x := x) (E := fun y19 y20 σ21 => sy_lt (4 * (σ21 5 10)) (fun v22 => sy_lt (1 <<< (Int32.toInt64 v22 &&& 63)) (fun v23 => m6_chance_L121 (fun y31 y32 y33 σ34 => if y31 = 0 then (some (y32, σ34)) else (some (y33, σ34))) sy_FU y19 y20 v22 v23 0 σ21))) ho hc hi h10 h50 (2 ^ bE B) 0 (Nat.zero_add _) sy_FU (by show _ < 1000; omega)
  refine Eq.trans e ?_
  rw [lt_eq, lt_eq, h10, sh_64 (bE B) (by omega), show (4 : Int32) * nI (bE B) = nI (4 * bE B) from pk_mul 4 _]
  have e2 := m6_halve_loop (σ := σ) (K := 4 * bE B) (x := x) (E := fun y31 y32 y33 σ34 => if y31 = 0 then (some (y32, σ34)) else (some (y33, σ34))) (by omega) (4 * bE B) 0 (Nat.zero_add _) sy_FU (by show _ < 1000; omega) (sp_ab B c i) (sp_ab_lt hc hE)
  refine Eq.trans e2 ?_
  unfold sp_ch
  by_cases q : x = 0
  · rw [if_pos q, if_pos q]; rfl
  · rw [if_neg q, if_neg q]; rfl
def cSu (σ0 σ : St) : Prop := ∀ k, ¬ ((15 ≤ k ∧ k ≤ 24) ∨ (34 ≤ k ∧ k ≤ 42) ∨ k = 50) → σ k = σ0 k
theorem m6_learn_loop {σ0 : St} {B : Bd} {Q : Unit → St → Prop} {E : St → Option (Unit × St)} (ho : okB B) (hE : ∀ σ, cSu σ0 σ → (∀ w, w < 2 ^ bE B → σ 50 w = rBit (sp_run (sp_setG B (nI w)) 24)) → Ok (E σ) Q) : ∀ (k w : Nat), w + k = 2 ^ bE B → ∀ n, k < n → ∀ σ, cSu σ0 σ → exG σ B → (∀ v, v < w → σ 50 v = rBit (sp_run (sp_setG B (nI v)) 24)) → Ok (m6_learnSubsets_L23 E n (nI (2 ^ bE B)) (nI w) σ) Q := by
  have h2 := two_E ho.2.2.1
  intro k
  induction k with
  | zero =>
    intro w hw n hn σ hF hB h
    obtain ⟨n, rfl⟩ : ∃ m, n = m + 1 := ⟨n - 1, by omega⟩
    show Ok (m6_learnSubsets_L23b _ _ _ _ σ) _
    unfold m6_learnSubsets_L23b
    rw [if_pos (nI_le (by omega) (by omega))]
    exact hE σ hF (fun v hv => h v (by omega))
  | succ k ih =>
    intro w hw n hn σ hF hB h
    obtain ⟨n, rfl⟩ : ∃ m, n = m + 1 := ⟨n - 1, by omega⟩
    show Ok (m6_learnSubsets_L23b _ _ _ _ σ) _
    unfold m6_learnSubsets_L23b
    rw [if_neg (nI_ge (by omega) (by omega)), lt_eq]
    obtain ⟨x, hB⟩ := hB
    have hB1 : isB (sy_sf σ 15 13 (nI w)) 15 (sp_setG B (nI w)) := isB.g (B := sp_setG B x) (fun k a b => sf_n (by omega)) (fun j hj => sf_sn hj) (sf_ss _ _ _ _) hB
    refine ok_bd (m3_play_sp (by omega) hB1 (okB_g ho)) (fun _ σ1 g => ?_)
    rw [gd_nI (by omega) (by omega), lt_eq, show sy_ix (nI w) = w from nI_clamp (by omega), nI_1, g.2.2.2.2.2.2.1]
    have b1 := cFr.kB (by omega) g.1 hB1
    refine ih (w + 1) (by omega) n (by omega) _ (fun q z => ?_) ⟨_, b1.of (fun q a b => sf_n (by omega))⟩ (fun v hv => ?_)
    · rw [sf_n (by omega), g.1 q (by omega), sf_n (by omega)]; exact hF q z
    · by_cases e : v = w
      · rw [e, sf_ss]
      · rw [sf_sn e, g.1 50 (by omega), sf_n (by omega)]
        exact h v (by omega)
abbrev k50 (σ : St) (T : Td) : Prop := ∀ w, w < 2 ^ tE T → σ 50 w = rBit (sp_run (sp_setG (sp_told T) (nI w)) 24)
theorem m6_learn_B {σ0 σ : St} {B : Bd} {e : Nat} (ho : okB B) (he : bE B = e) (hF : cSu σ0 σ) (hB : isB σ 15 B) : Ok (m6_learnSubsets_L23 (fun σ8 => sy_zg 1 (sy_lt (sy_sf σ8 0 15 1) (fun σ9 => some ((), σ9)))) sy_FU (nI (2 ^ e)) 0 σ) (fun _ σ' => ∃ σ1, cSu σ0 σ1 ∧ σ' = sy_sf σ1 0 15 1 ∧ ∀ w, w < 2 ^ e → σ1 50 w = rBit (sp_run (sp_setG B (nI w)) 24)) := by
  subst he
  have h2 := two_E ho.2.2.1
  refine m6_learn_loop (σ0 := σ0) ho (fun σ1 f1 e1 => ?_) (2 ^ bE B) 0 (Nat.zero_add _) sy_FU (by show _ < 1000; omega) σ hF ⟨bg B, hB⟩ (fun v hv => by omega)
  rw [zg_1, lt_eq]
  exact ok_some ⟨σ1, f1, rfl, e1⟩
theorem m6_learn_C {σ σ3 : St} {T : Td} (hC : isCT σ T) (f3 : cSu σ σ3) (e3 : k50 σ3 T) : clF σ (sy_sf σ3 0 15 1) ∧ isCT (sy_sf σ3 0 15 1) T ∧ k50 (sy_sf σ3 0 15 1) T := by
  have hF : ∀ k, ¬ ((15 ≤ k ∧ k ≤ 24) ∨ (34 ≤ k ∧ k ≤ 42) ∨ k = 50 ∨ k = 0) → (sy_sf σ3 0 15 1) k = σ k := fun k q => by rw [sf_n (by omega)]; exact f3 k (by omega)
  have h0j : ∀ j, j ≠ 15 → (sy_sf σ3 0 15 1) 0 j = σ 0 j := fun j hj => by rw [sf_sn hj, f3 0 (by omega)]
  have k1 : k50 (sy_sf σ3 0 15 1) T := by
    unfold k50
    rw [sf_n (by omega)]
    exact e3
  refine ⟨fun k q => hF k (by omega), ⟨hC.1.of (fun k q => hF k (by omega)) (h0j 16 (by omega)), ?_⟩, k1⟩
  obtain ⟨g1, g2, g3, g4, g5, g6⟩ := hC.2
  refine ⟨?_, Or.inr ⟨sf_ss _ _ _ _, k1⟩, ?_, ?_, ?_, ?_⟩
  · rw [h0j 14 (by omega)]
    rcases g1 with q | ⟨q1, q2⟩
    · exact Or.inl q
    · exact Or.inr ⟨q1, q2.of (fun k p q => hF k (by omega))⟩
  · rw [hF 46 (by omega)]; exact g3
  · rw [hF 47 (by omega)]; exact g4
  · rw [hF 48 (by omega)]; exact g5
  · rw [hF 49 (by omega)]; exact g6
theorem m6_learn_sp {σ : St} {T : Td} (hT : okT T) (hC : isCT σ T) : Ok (m6_learnSubsets σ) (fun _ σ' => clF σ σ' ∧ isCT σ' T ∧ k50 σ' T) := by
  have hE := hT.2.2.1
  unfold m6_learnSubsets
  refine ok_bd (m0_become_sp hC.1.2.2.1 (okB_told hT)) (fun _ σ1 g => ?_)
  rw [lt_eq, g.1 5 (by omega), cs_E hC.1, sh_1 (by omega)]
  have h := m6_learn_B (σ0 := σ) (e := tE T) (okB_told hT) rfl (fun q z => g.1 q (by omega)) g.2
  refine ok_mono h (fun _ σ2 w => ?_)
  obtain ⟨σ3, f3, rfl, e3⟩ := w
  exact m6_learn_C hC f3 e3
theorem cl_chance {σ : St} {T : Td} (hT : okT T) (hC : isCT σ T) (a b x : Int32) : CL (m6_chance a b x σ) σ (an_chance T a b x) T := by
  have hN := (okB_told hT).2.1
  unfold m6_chance an_chance
  rw [m6_within_eq, bd_some, b01_0]
  by_cases ca : 0 ≤ a ∧ a ≤ 16
  · rw [if_pos ca, m6_isNote_eq hC, bd_some, b01_0]
    by_cases cb : 0 ≤ b ∧ b ≤ nI (bN (sp_told T)) - 1
    · rw [if_pos cb, m6_within_eq, bd_some, b01_0]
      by_cases cx : 0 ≤ x ∧ x ≤ 1
      · rw [if_pos cx, if_pos (And.intro ca (And.intro cb cx))]
        obtain ⟨c, hc, rfl⟩ := nI_rng (n := 16) (by omega) ca
        obtain ⟨i, hi, rfl⟩ := nI_rngP (by omega) cb
        rw [show sy_ix (nI c) = c from nI_clamp (by omega), show sy_ix (nI i) = i from nI_clamp (by omega)]
        have fin : ∀ σ', clF σ σ' → isCT σ' T → k50 σ' T → CL (chC (nI c) (nI i) x σ') σ (sp_ch (sp_told T) c i x) T := by
          intro σ' h1 h2 h3
          rw [chC_eq (e := tE T) (okB_told hT) rfl hc (by omega) (cs_E h2.1) h3]
          exact ok_some ⟨rfl, h1, h2⟩
        rcases hC.2.2.1 with h0 | ⟨h1, h2⟩
        · rw [if_pos h0]
          refine ok_bd (m6_learn_sp hT hC) (fun _ σ1 g => ?_)
          exact fin σ1 g.1 g.2.1 g.2.2
        · rw [if_neg (by rw [h1]; decide)]
          exact fin σ clF.rf hC h2
      · rw [if_neg cx, if_neg (fun q => cx q.2.2)]
        exact ok_some ⟨rfl, clF.rf, hC⟩
    · rw [if_neg cb, if_neg (fun q => cb q.2.1)]
      exact ok_some ⟨rfl, clF.rf, hC⟩
  · rw [if_neg ca, if_neg (fun q => ca q.1)]
    exact ok_some ⟨rfl, clF.rf, hC⟩
/-! the reference's -/
theorem rem_half {b r : Nat} (h0 : 0 < r) (h : r ≤ b) : 2 * (b % r) < b := by
  have h1 := Nat.div_add_mod b r
  have h2 := Nat.mod_lt b h0
  have h3 : 0 < b / r := Nat.div_pos h h0
  have h4 : r ≤ r * (b / r) := Nat.le_mul_of_pos_right r h3
  omega
theorem gcd_st (a b : Nat) : Nat.gcd a b = Nat.gcd b (a % b) := by
  rw [Nat.gcd_comm a b, Nat.gcd_rec b a, Nat.gcd_comm]
theorem m7_part_loop {σ : St} {x1 x2 : Int64} {x : Int32} {E : Int64 → Int64 → Int32 → Int64 → St → Option (Int64 × St)} : ∀ (m : Nat), m ≤ 62 → ∀ a b, b < 2 ^ m → a < 2 ^ 62 → ∀ n, 2 * m < n → m7_part_L6 E n x1 x2 x (lN a) (lN b) σ = E x1 x2 x (lN (Nat.gcd a b)) σ := by
  have st : ∀ a b n, a < 2 ^ 62 → b < 2 ^ 62 → m7_part_L6 E (n + 1) x1 x2 x (lN a) (lN b) σ = if b = 0 then E x1 x2 x (lN a) σ else m7_part_L6 E n x1 x2 x (lN b) (lN (a % b)) σ := by
    intro a b n ha hb
    show m7_part_L6b _ _ _ _ _ _ _ σ = _
    unfold m7_part_L6b
    by_cases c : b = 0
    · rw [if_pos c, if_pos (lg_zero.mpr (by rw [c]; rfl))]
    · rw [if_neg c, if_neg (fun q => c ((lN_e0 (by omega)).mp (lg_zero.mp q))), dl_ne (fun q => c ((lN_e0 (by omega)).mp q)), lt_eq, pk_lRem (by omega) (by omega) (by omega)]
  intro m
  induction m with
  | zero =>
    intro _ a b hb ha n hn
    obtain ⟨n, rfl⟩ : ∃ k, n = k + 1 := ⟨n - 1, by omega⟩
    have b0 : b = 0 := by simpa using hb
    rw [st a b n ha (by rw [b0]; decide), if_pos b0, b0, Nat.gcd_zero_right]
  | succ m ih =>
    intro hm a b hb ha n hn
    have hp : 2 ^ (m + 1) ≤ 2 ^ 62 := Nat.pow_le_pow_right (by omega) hm
    have hp2 : 2 ^ (m + 1) = 2 ^ m * 2 := Nat.pow_succ 2 m
    obtain ⟨n, rfl⟩ : ∃ k, n = k + 1 := ⟨n - 1, by omega⟩
    rw [st a b n ha (by omega)]
    by_cases c : b = 0
    · rw [if_pos c, c, Nat.gcd_zero_right]
    · rw [if_neg c, gcd_st a b]
      obtain ⟨n, rfl⟩ : ∃ k, n = k + 1 := ⟨n - 1, by omega⟩
      have hr := Nat.mod_lt a (show 0 < b by omega)
      rw [st b (a % b) n (by omega) (by omega)]
      by_cases d : a % b = 0
      · rw [if_pos d, d, Nat.gcd_zero_right]
      · rw [if_neg d, gcd_st b (a % b)]
        have h2 := rem_half (show 0 < a % b by omega) (show a % b ≤ b by omega)
        exact ih (by omega) (a % b) (b % (a % b)) (by omega) (by omega) n (by omega)
theorem m7_part_eq {σ : St} {a b : Nat} {x : Int32} (ha : a < 2 ^ 62) (hb : b < 2 ^ 62) (h0 : 0 < b) : m7_part (lN a) (lN b) x σ = some (if x = 0 then lN (a / Nat.gcd a b) else lN (b / Nat.gcd a b), σ) := by
  have hg : 0 < Nat.gcd a b := Nat.gcd_pos_of_pos_right a h0
  have hl : Nat.gcd a b ≤ b := Nat.gcd_le_right a h0
  have e := m7_part_loop (σ := σ) (x1 := lN a) (x2 := lN b) (x := x) (E := fun y7 y8 y9 y10 σ11 => if y9 = 0 then (sy_dl y10 (some ((y7 / y10), σ11))) else (sy_dl y10 (some ((y8 / y10), σ11)))) 62 (by omega) a b hb ha sy_FU (by show _ < 1000; omega)
  unfold m7_part
  refine Eq.trans e ?_
  have hn : ¬ lN (Nat.gcd a b) = 0 := fun q => by
    have := (lN_e0 (by omega)).mp q
    omega
  rw [dl_ne hn, dl_ne hn, pk_lDiv (by omega) hg (by omega), pk_lDiv (by omega) hg (by omega)]
  by_cases q : x = 0
  · rw [if_pos q, if_pos q]
  · rw [if_neg q, if_neg q]
theorem m7_weight_loop {σ : St} {c w s e : Nat} {y z : Int32} {u : Int64} {E : Int32 → Int32 → Int32 → Int64 → Int32 → Int64 → St → Option (Int64 × St)} (hc : c ≤ 16) (he : e ≤ 8) (hw : w < 256) (h : σ 61 12 = nI e) : ∀ (k j : Nat), j + k = e → ∀ n, k < n → m7_chanceOf_L46 E n (nI c) y z u (nI w) (lN (s * sp_pw c w j)) (nI j) σ = E (nI c) y z u (nI w) (lN (s * sp_pw c w e)) σ := by
  intro k
  induction k with
  | zero =>
    intro j hj n hn
    obtain ⟨n, rfl⟩ : ∃ m, n = m + 1 := ⟨n - 1, by omega⟩
    show m7_chanceOf_L46b _ _ _ _ _ _ _ _ _ σ = _
    unfold m7_chanceOf_L46b
    rw [h, if_pos (nI_le (by omega) (by omega)), show j = e by omega]
  | succ k ih =>
    intro j hj n hn
    obtain ⟨n, rfl⟩ : ∃ m, n = m + 1 := ⟨n - 1, by omega⟩
    have hk := ih (j + 1) (by omega) n (by omega)
    rw [sp_pw_s, ← Nat.mul_assoc] at hk
    have hb := bit_t1 (t := j) (m := w) (by omega) (by omega)
    show m7_chanceOf_L46b _ _ _ _ _ _ _ _ _ σ = _
    unfold m7_chanceOf_L46b
    rw [h, if_neg (nI_ge (by omega) (by omega)), m7_isIn_eq, bd_some, b01_0, lt_eq, lt_eq, nI_1, n16_sub hc, nI_l (by omega), nI_l (by omega), lN_mul, lN_mul]
    by_cases d : w.testBit j = true
    · rw [if_pos (hb.mpr d)]
      rw [if_pos d] at hk
      exact hk
    · rw [if_neg (fun q => d (hb.mp q))]
      rw [if_neg d] at hk
      exact hk
theorem m7_chance_loop {σ0 : St} {B : Bd} {c i : Nat} {x : Int32} {Q : Int64 → St → Prop} {E : Int32 → Int64 → St → Option (Int64 × St)} (ho : okB B) (hc : c ≤ 16) (hi : i < bN B) (h12 : σ0 61 12 = nI (bE B)) (hE : ∀ σ, mS 14 σ0 σ → Ok (E x (lN (sp_ab B c i)) σ) Q) : ∀ (k w : Nat), w + k = 2 ^ bE B → ∀ n, k < n → ∀ σ, mS 14 σ0 σ → (∃ g, isM σ (sp_setG B g)) → Ok (m7_chanceOf_L6 E n (nI c) (nI i) x (lN (sp_uw B c i w)) (nI w) σ) Q := by
  have hE8 := ho.2.2.1
  have h2 := two_E hE8
  have hN := ho.2.1
  intro k
  induction k with
  | zero =>
    intro w hw n hn σ hF hB
    obtain ⟨n, rfl⟩ : ∃ m, n = m + 1 := ⟨n - 1, by omega⟩
    show Ok (m7_chanceOf_L6b _ _ _ _ _ _ _ σ) _
    unfold m7_chanceOf_L6b
    rw [hF.2 12 (by omega) (by omega), h12, sh_1 (by omega), if_pos (nI_le (by omega) (by omega)), show w = 2 ^ bE B by omega]
    exact hE σ hF
  | succ k ih =>
    intro w hw n hn σ hF hB
    obtain ⟨n, rfl⟩ : ∃ m, n = m + 1 := ⟨n - 1, by omega⟩
    show Ok (m7_chanceOf_L6b _ _ _ _ _ _ _ σ) _
    unfold m7_chanceOf_L6b
    rw [hF.2 12 (by omega) (by omega), h12, sh_1 (by omega), if_neg (nI_ge (by omega) (by omega)), lt_eq]
    obtain ⟨g, hB⟩ := hB
    have hB1 : isM (sy_sf σ 61 14 (nI w)) (sp_setG B (nI w)) := isM.g (B := sp_setG B g) hB
    refine ok_bd (m7_lives_sp hB1 (okB_g ho)) (fun _ σ1 q => ?_)
    have m1 := q.1.isM hB1
    have hF1 : mS 14 σ0 σ1 := ⟨fun k z => by rw [q.1.1 k z, sf_n (by omega)]; exact hF.1 k z, fun j z v => by rw [q.1.2 j z, sf_sn v]; exact hF.2 j z v⟩
    have e74 : σ1 74 i = rSt (sp_run (sp_setG B (nI w)) 24) i := q.2.2.2.2.2.2.1 i hi (Or.inl (ho.2.2.2.2.2.2.1 i hi).1)
    have e12 : σ1 61 12 = nI (bE B) := m1.2.2.2.2.2.1
    have hk := ih (w + 1) (by omega) n (by omega) σ1 hF1 ⟨_, m1⟩
    rw [sp_uw_s] at hk
    rw [gd_nI (by omega) (by omega), show sy_ix (nI i) = i from nI_clamp (by omega), e74]
    have fin : ∀ (s : Nat) (E' : Int32 → Int32 → Int32 → Int64 → Int32 → Int64 → St → Option (Int64 × St)), (E' = fun y19 y20 y21 y22 y23 y24 σ25 => sy_lt (y22 + y24) (fun v26 => m7_chanceOf_L6 E n y19 y20 y21 v26 (y23 + 1) σ25)) → s * sp_pw c w (bE B) = (if rSt (sp_run (sp_setG B (nI w)) 24) i ≤ 0 then 0 else sp_pw c w (bE B)) → Ok (m7_chanceOf_L46 E' sy_FU (nI c) (nI i) x (lN (sp_uw B c i w)) (nI w) (lN (s * sp_pw c w 0)) 0 σ1) Q := by
      intro s E' hE' hs
      have e := m7_weight_loop (σ := σ1) (c := c) (w := w) (s := s) (y := nI i) (z := x) (u := lN (sp_uw B c i w)) (E := E') hc hE8 (by omega) e12 (bE B) 0 (Nat.zero_add _) sy_FU (by show _ < 1000; omega)
      rw [show m7_chanceOf_L46 E' sy_FU (nI c) (nI i) x (lN (sp_uw B c i w)) (nI w) (lN (s * sp_pw c w 0)) 0 σ1 = _ from e, hE']
      show Ok (sy_lt (lN (sp_uw B c i w) + lN (s * sp_pw c w (bE B))) (fun v26 => m7_chanceOf_L6 E n (nI c) (nI i) x v26 (nI w + 1) σ1)) Q
      rw [lt_eq, hs, lN_add, nI_1]
      exact hk
    by_cases d : rSt (sp_run (sp_setG B (nI w)) 24) i ≤ 0
    · rw [if_pos d]
      exact fin 0 _ rfl (by rw [if_pos d, Nat.zero_mul])
    · rw [if_neg d]
      exact fin 1 _ rfl (by rw [if_neg d, Nat.one_mul])
theorem m7_chanceOf_sp {σ : St} {B : Bd} {c i : Nat} {x : Int32} (ho : okB B) (hg : bg B = 0) (hM : isM σ B) (hc : c ≤ 16) (hi : i < bN B) : Ok (m7_chanceOf (nI c) (nI i) x σ) (fun y σ' => y = sp_ch B c i x ∧ mFr σ σ') := by
  have hE8 := ho.2.2.1
  have h2 := two_E hE8
  have h12 := hM.2.2.2.2.2.1
  unfold m7_chanceOf
  refine m7_chance_loop (σ0 := σ) ho hc hi h12 (fun σ1 f1 => ?_) (2 ^ bE B) 0 (Nat.zero_add _) sy_FU (by show _ < 1000; omega) σ ⟨fun _ _ => rfl, fun _ _ _ => rfl⟩ ⟨bg B, hM⟩
  rw [lt_eq, sf_sn (by omega), f1.2 12 (by omega) (by omega), h12, sh_64 (bE B) (by omega), show lN (2 ^ (4 * bE B)) = lN (sp_be B) from rfl, m7_part_eq (sp_ab_lt hc hE8) (sp_be_lt hE8) (sp_be_pos B), bd_some]
  refine ok_some ⟨rfl, fun k z => by rw [sf_n (by omega)]; exact f1.1 k z, fun j z => ?_⟩
  by_cases e : j = 14
  · rw [e, sf_ss, hM.2.2.2.2.2.2.2.1, hg]
  · rw [sf_sn e]; exact f1.2 j z e
theorem md_chance {σ : St} {T : Td} (hT : okT T) (hM : isMT σ T) (a b x : Int32) : MD (m7_chance a b x σ) σ (an_chance T a b x) T := by
  have hN := (okB_told hT).2.1
  unfold m7_chance an_chance
  refine md_find hT hM (fun σ1 f1 m1 b1 r1 => ?_)
  have no : ∀ s : St, m7_no (-2) s = some (-9223372036854775806, s) := fun s => rfl
  rw [show m7_in a.toInt64 0 16 σ1 = _ from m7_in32 a 0 16 σ1, bd_some, b01_0]
  by_cases ca : 0 ≤ a ∧ a ≤ 16
  · rw [if_pos ca, m7_isNote_eq, bd_some, b01_0, b1.2.2.1]
    by_cases cb : 0 ≤ b ∧ b ≤ nI (bN (sp_told T)) - 1
    · rw [if_pos cb, m7_isTwo_eq, bd_some, b01_0]
      by_cases cx : 0 ≤ x ∧ x ≤ 1
      · rw [if_pos cx, if_pos (And.intro ca (And.intro cb cx))]
        obtain ⟨c, hc, rfl⟩ := nI_rng (n := 16) (by omega) ca
        obtain ⟨i, hi, rfl⟩ := nI_rngP (by omega) cb
        rw [show sy_ix (nI c) = c from nI_clamp (by omega), show sy_ix (nI i) = i from nI_clamp (by omega)]
        exact ok_bd (m7_chanceOf_sp (okB_told hT) rfl b1 hc hi) (fun y σ2 g => ok_some ⟨g.1, f1.tr g.2.wk.md, g.2.wk.MT m1⟩)
      · rw [if_neg cx, if_neg (fun q => cx q.2.2), no, bd_some]
        exact ok_some ⟨rfl, f1, m1⟩
    · rw [if_neg cb, if_neg (fun q => cb q.2.1), no, bd_some]
      exact ok_some ⟨rfl, f1, m1⟩
  · rw [if_neg ca, if_neg (fun q => ca q.1), no, bd_some]
    exact ok_some ⟨rfl, f1, m1⟩
