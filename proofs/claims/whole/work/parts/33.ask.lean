/-! ===== promise 27: the next note to hear ===== -/
/-- of the first n, how many are p and w by o -/
def sp_ca (p : Nat → Prop) [DecidablePred p] (o : Nat → Int32) (w : Int32) : Nat → Nat
  | 0 => 0
  | n + 1 => sp_ca p o w n + (if p n ∧ o n = w then 1 else 0)
theorem sp_ca_s (p : Nat → Prop) [DecidablePred p] (o : Nat → Int32) (w : Int32) (n : Nat) : sp_ca p o w (n + 1) = sp_ca p o w n + (if p n ∧ o n = w then 1 else 0) := rfl
theorem sp_ca_le (p : Nat → Prop) [DecidablePred p] (o : Nat → Int32) (w : Int32) : ∀ n, sp_ca p o w n ≤ n
  | 0 => Nat.le_refl 0
  | n + 1 => by
    have := sp_ca_le p o w n
    rw [sp_ca_s]
    split <;> omega
theorem sp_ca_pos {p : Nat → Prop} [DecidablePred p] {o : Nat → Int32} {w : Int32} : ∀ n, 0 < sp_ca p o w n → ∃ v, v < n ∧ p v ∧ o v = w
  | 0, h => by cases h
  | n + 1, h => by
    rw [sp_ca_s] at h
    by_cases c : p n ∧ o n = w
    · exact ⟨n, by omega, c⟩
    · rw [if_neg c] at h
      obtain ⟨v, h1, h2⟩ := sp_ca_pos n (by omega)
      exact ⟨v, by omega, h2⟩
/-- the greatest of the first n -/
def sp_mx (c : Nat → Nat) : Nat → Nat
  | 0 => 0
  | n + 1 => max (sp_mx c n) (c n)
theorem sp_mx_s (c : Nat → Nat) (n : Nat) : sp_mx c (n + 1) = max (sp_mx c n) (c n) := rfl
theorem sp_mx_le {c : Nat → Nat} {M : Nat} : ∀ n, (∀ i, i < n → c i ≤ M) → sp_mx c n ≤ M
  | 0, _ => Nat.zero_le M
  | n + 1, h => by
    have h1 := sp_mx_le n (fun i hi => h i (by omega))
    have h2 := h n (by omega)
    rw [sp_mx_s]
    omega
theorem sp_mx_ge {c : Nat → Nat} : ∀ n i, i < n → c i ≤ sp_mx c n
  | 0, i, h => by cases h
  | n + 1, i, h => by
    rw [sp_mx_s]
    by_cases e : i = n
    · rw [e]; omega
    · have := sp_mx_ge (c := c) n i (by omega)
      omega
/-- of notes: the most that are alike, by what is heard; by whom it is heard so -/
def sp_ma (p : Nat → Prop) [DecidablePred p] (o : Nat → Int32) : Nat := sp_mx (fun w => sp_ca p o (nI w) 4) 3
def sp_mb (p : Nat → Prop) [DecidablePred p] (o : Nat → Int32) : Nat := sp_mx (fun a => if p a then sp_ca p o (o a) 4 else 0) 4
theorem sp_mab {p : Nat → Prop} [DecidablePred p] {o : Nat → Int32} (h : ∀ v, o v = 0 ∨ o v = 1 ∨ o v = 2) : sp_mb p o = sp_ma p o := by
  apply Nat.le_antisymm
  · refine sp_mx_le 4 (fun a ha => ?_)
    by_cases c : p a
    · rw [if_pos c]
      rcases h a with e | e | e
      · rw [e]; exact sp_mx_ge (c := fun w => sp_ca p o (nI w) 4) 3 0 (by omega)
      · rw [e]; exact sp_mx_ge (c := fun w => sp_ca p o (nI w) 4) 3 1 (by omega)
      · rw [e]; exact sp_mx_ge (c := fun w => sp_ca p o (nI w) 4) 3 2 (by omega)
    · rw [if_neg c]; exact Nat.zero_le _
  · refine sp_mx_le 3 (fun w hw => ?_)
    by_cases z : sp_ca p o (nI w) 4 = 0
    · rw [z]; exact Nat.zero_le _
    · obtain ⟨v, h1, h2, h3⟩ := sp_ca_pos 4 (show 0 < sp_ca p o (nI w) 4 by omega)
      have g := sp_mx_ge (c := fun a => if p a then sp_ca p o (o a) 4 else 0) 4 v h1
      rw [if_pos h2, h3] at g
      exact g
theorem sp_ma_le (p : Nat → Prop) [DecidablePred p] (o : Nat → Int32) : sp_ma p o ≤ 4 := sp_mx_le 3 (fun w _ => sp_ca_le p o (nI w) 4)
/-- the least of those by which least is, of n + 1 -/
def sp_am (f : Nat → Nat) : Nat → Nat
  | 0 => 0
  | n + 1 => if f (n + 1) < f (sp_am f n) then n + 1 else sp_am f n
theorem sp_am_s (f : Nat → Nat) (n : Nat) : sp_am f (n + 1) = if f (n + 1) < f (sp_am f n) then n + 1 else sp_am f n := rfl
theorem sp_am_le (f : Nat → Nat) : ∀ n, sp_am f n ≤ n
  | 0 => Nat.le_refl 0
  | n + 1 => by
    have := sp_am_le f n
    rw [sp_am_s]
    split <;> omega
def sp_as (f : Nat → Nat) (N : Nat) : Int32 := if N = 0 then -1 else nI (sp_am f (N - 1))
abbrev askP (T : Td) (B : Bd) (k : Nat) : Nat → Prop := fun v => sp_fit T (sp_setLe B k (nI v))
abbrev askO (B : Bd) (k j : Nat) : Nat → Int32 := fun v => rSt (sp_run (sp_setLe B k (nI v)) 24) j
def sp_af (T : Td) (B : Bd) (k j : Nat) : Nat := sp_ma (askP T B k) (askO B k j)
def sp_ask (T : Td) (B : Bd) (k : Nat) : Int32 := sp_as (sp_af T B k) (bN B)
def an_ask (T : Td) (a : Int32) : Int32 := if 0 ≤ a ∧ a ≤ nI (bP (sp_told T)) - 1 then sp_ask T (sp_told T) (sy_ix a) else -2
theorem sp_st3 {B : Bd} (ho : okB B) (j : Nat) : ∃ u : Nat, u < 3 ∧ rSt (sp_run B 24) j = nI u := by
  rcases (sp_ag_run ho.2.1 24).2.2 j with e | e | e
  · exact ⟨0, by omega, e⟩
  · exact ⟨1, by omega, e⟩
  · exact ⟨2, by omega, e⟩
theorem nI_x3 (a : Nat) : nI a * 3 = nI (3 * a) := by rw [Int32.mul_comm]; exact pk_mul 3 a
theorem mx_nI {a b : Nat} (ha : a < 2 ^ 31) (hb : b < 2 ^ 31) : sy_max (nI a) (nI b) = nI (max a b) := by
  unfold sy_max
  by_cases h : a < b
  · rw [if_pos ((nI_ltI ha hb).mpr h), show max a b = b by omega]
  · rw [if_neg (fun q => h ((nI_ltI ha hb).mp q)), show max a b = a by omega]
theorem gr_nI {a b : Nat} (ha : a < 2 ^ 31) (hb : b < 2 ^ 31) (σ : St) : m7_greater (nI a) (nI b) σ = some (nI (max b a), σ) := by
  rw [m7_greater_eq]
  by_cases h : b < a
  · rw [if_pos ((nI_ltI hb ha).mpr h), show max b a = a by omega]
  · rw [if_neg (fun q => h ((nI_ltI hb ha).mp q)), show max b a = b by omega]
/-! the class's -/
theorem m6_alike_in {σ0 : St} {N : Nat} {o : Nat → Int32} {c : Nat → Nat → Nat} {x y : Int32} {Q : Unit → St → Prop} {E : Int32 → Int32 → St → Option (Unit × St)} (hN : N ≤ 16) (h5 : σ0 15 5 = nI N) (ho : ∀ j, j < N → σ0 38 j = o j) (h3 : ∀ j, ∃ u : Nat, u < 3 ∧ o j = nI u) (hE : ∀ σ, (∀ q, q ≠ 51 → σ q = σ0 q) → (∀ j, j < N → ∀ w, w < 3 → σ 51 (3 * j + w) = nI (c j w + (if o j = nI w then 1 else 0))) → Ok (E x y σ) Q) : ∀ (k i : Nat), i + k = N → ∀ n, k < n → ∀ σ, (∀ q, q ≠ 51 → σ q = σ0 q) → (∀ j, j < N → ∀ w, w < 3 → σ 51 (3 * j + w) = nI (c j w + (if j < i ∧ o j = nI w then 1 else 0))) → Ok (m6_countAlike_L45 E n x y (nI i) σ) Q := by
  intro k
  induction k with
  | zero =>
    intro i hi n hn σ hF h
    obtain ⟨n, rfl⟩ : ∃ m, n = m + 1 := ⟨n - 1, by omega⟩
    show Ok (m6_countAlike_L45b _ _ _ _ _ σ) _
    unfold m6_countAlike_L45b
    rw [hF 15 (by omega), h5, if_pos (nI_le (by omega) (by omega))]
    refine hE σ hF (fun j hj w hw => ?_)
    rw [h j hj w hw]
    by_cases e : o j = nI w
    · rw [if_pos e, if_pos ⟨by omega, e⟩]
    · rw [if_neg e, if_neg (fun q => e q.2)]
  | succ k ih =>
    intro i hi n hn σ hF h
    obtain ⟨n, rfl⟩ : ∃ m, n = m + 1 := ⟨n - 1, by omega⟩
    obtain ⟨u, hu, eu⟩ := h3 i
    have e38 : σ 38 i = nI u := by rw [hF 38 (by omega), ho i (by omega), eu]
    show Ok (m6_countAlike_L45b _ _ _ _ _ σ) _
    unfold m6_countAlike_L45b
    rw [hF 15 (by omega), h5, if_neg (nI_ge (by omega) (by omega))]
    simp (disch := omega) only [gd_nI, sy_ix, ix_nI, e38, nI_x3, nI_add, nI_1, lt_eq]
    have e51 : σ 51 (3 * i + u) = nI (c i u) := by rw [h i (by omega) u hu, if_neg (fun q => by omega)]; rfl
    rw [e51, nI_1]
    refine ih (i + 1) (by omega) n (by omega) _ (fun q hq => by rw [sf_n hq]; exact hF q hq) (fun j hj w hw => ?_)
    rw [sf_at]
    by_cases e : j = i ∧ w = u
    · rw [if_pos ⟨rfl, by omega⟩, if_pos ⟨by omega, by rw [e.1, e.2]; exact eu⟩, e.1, e.2]
    · rw [if_neg (fun q => e (by have := q.2; omega)), h j hj w hw]
      by_cases d : j < i ∧ o j = nI w
      · rw [if_pos d, if_pos ⟨by omega, d.2⟩]
      · rw [if_neg d, if_neg (fun q => ?_)]
        by_cases f : j = i
        · refine e ⟨f, ?_⟩
          have q2 := q.2
          rw [f, eu, nI_eq (by omega) (by omega)] at q2
          exact q2.symm
        · exact d ⟨by omega, q.2⟩
abbrev isAk (σ : St) (T : Td) (B : Bd) (k i : Nat) : Prop := ∀ j, j < bN B → ∀ w, w < 3 → σ 51 (3 * j + w) = nI (sp_ca (askP T B k) (askO B k j) (nI w) i)
theorem m6_alike_out {σ0 : St} {T : Td} (hT : okT T) (hC : isCT σ0 T) {B : Bd} (ho : okB B) {k : Nat} (hk : k < 11) : ∀ (j i : Nat), i + j = 4 → ∀ n, j < n → ∀ σ, cWk σ0 σ → (∀ w, isB (sy_sf σ 17 k w) 15 (sp_setLe B k w)) → isAk σ T B k i → Ok (m6_countAlike_L21 (fun σ15 => some ((), σ15)) n (nI k) (nI i) σ) (fun _ σ' => cWk σ0 σ' ∧ isAk σ' T B k 4) := by
  have hN := ho.2.1
  intro j
  induction j with
  | zero =>
    intro i hi n hn σ hW hB hA
    obtain ⟨n, rfl⟩ : ∃ m, n = m + 1 := ⟨n - 1, by omega⟩
    show Ok (m6_countAlike_L21b _ _ _ _ σ) _
    unfold m6_countAlike_L21b
    rw [show i = 4 by omega] at hA ⊢
    rw [if_pos (by decide)]
    exact ok_some ⟨hW, hA⟩
  | succ j ih =>
    intro i hi n hn σ hW hB hA
    obtain ⟨n, rfl⟩ : ∃ m, n = m + 1 := ⟨n - 1, by omega⟩
    show Ok (m6_countAlike_L21b _ _ _ _ σ) _
    unfold m6_countAlike_L21b
    rw [if_neg (show ¬ (4 : Int32) ≤ nI i from nI_ge (b := 4) (by omega) (by omega)), gd_nI (by omega) (by omega), lt_eq, show sy_ix (nI k) = k from nI_clamp (by omega)]
    have hB1 := hB (nI i)
    have hEar : isEar (sy_sf σ 17 k (nI i)) T := by
      unfold isEar
      rw [sf_n (by omega), sf_n (by omega), sf_n (by omega), hW 43 (by omega), hW 44 (by omega), hW 45 (by omega)]
      exact hC.1.2.2.2.1
    have hA1 : isAk (sy_sf σ 17 k (nI i)) T B k i := fun j hj w hw => by rw [sf_n (by omega)]; exact hA j hj w hw
    refine ok_bd (m6_triedFits_sp hT hEar hB1 (okB_le ho)) (fun y σ1 g => ?_)
    obtain ⟨rfl, g1, g2⟩ := g
    have b1 := cFr.kB (by omega) g1 hB1
    have hW1 : cWk σ0 σ1 := fun q z => by rw [g1 q (by omega), sf_n (by omega)]; exact hW q z
    have hA2 : isAk σ1 T B k i := fun j hj w hw => by rw [g1 51 (by omega)]; exact hA1 j hj w hw
    have go : ∀ σ2, cWk σ0 σ2 → isB σ2 15 (sp_setLe B k (nI i)) → isAk σ2 T B k (i + 1) → Ok (m6_countAlike_L21 (fun σ15 => some ((), σ15)) n (nI k) (nI i + 1) σ2) (fun _ σ' => cWk σ0 σ' ∧ isAk σ' T B k 4) := by
      intro σ2 w2 b2 a2
      rw [nI_1]
      refine ih (i + 1) (by omega) n (by omega) σ2 w2 (fun w => ?_) a2
      have := isB.le (k := k) (v := w) b2
      rwa [le_le] at this
    rw [b01_0]
    by_cases c : sp_fit T (sp_setLe B k (nI i))
    · rw [if_pos c]
      refine m6_alike_in (σ0 := σ1) (N := bN B) (o := fun j => askO B k j i) (c := fun j w => sp_ca (askP T B k) (askO B k j) (nI w) i) hN b1.2.2.1 (fun j hj => g2.2.2.2.2.2.2.2.2.1 j (by omega)) (fun j => sp_st3 (okB_le ho) j) (fun σ2 f2 a2 => ?_) (bN B) 0 (Nat.zero_add _) sy_FU (by show _ < 1000; omega) σ1 (fun _ _ => rfl) (fun j hj w hw => by rw [if_neg (fun q => by omega)]; exact hA2 j hj w hw)
      refine go σ2 (fun q z => by rw [f2 q (by omega)]; exact hW1 q z) (b1.of (fun q a b => f2 q (by omega))) (fun j hj w hw => ?_)
      rw [a2 j hj w hw, sp_ca_s]
      by_cases e : askO B k j i = nI w
      · rw [if_pos e, if_pos ⟨c, e⟩]
      · rw [if_neg e, if_neg (fun q => e q.2)]
    · rw [if_neg c]
      refine go σ1 hW1 b1 (fun j hj w hw => ?_)
      rw [sp_ca_s, if_neg (fun q => c q.1)]
      exact hA2 j hj w hw
theorem m6_mostAlike_loop {σ : St} {i : Nat} {c : Nat → Nat} (hi : i < 16) (hc : ∀ w, c w ≤ 4) (h : ∀ w, w < 3 → σ 51 (3 * i + w) = nI (c w)) : ∀ (k w : Nat), w + k = 3 → ∀ n, k < n → m6_mostAlike_L4 (fun y5 σ6 => some (y5, σ6)) n (nI i) (nI (sp_mx c w)) (nI w) σ = some (nI (sp_mx c 3), σ) := by
  intro k
  induction k with
  | zero =>
    intro w hw n hn
    obtain ⟨n, rfl⟩ : ∃ m, n = m + 1 := ⟨n - 1, by omega⟩
    show m6_mostAlike_L4b _ _ _ _ _ σ = _
    unfold m6_mostAlike_L4b
    rw [show w = 3 by omega, if_pos (by decide)]
  | succ k ih =>
    intro w hw n hn
    obtain ⟨n, rfl⟩ : ∃ m, n = m + 1 := ⟨n - 1, by omega⟩
    have hm := sp_mx_le (c := c) (M := 4) w (fun i _ => hc i)
    have hcw := hc w
    show m6_mostAlike_L4b _ _ _ _ _ σ = _
    unfold m6_mostAlike_L4b
    rw [if_neg (show ¬ (3 : Int32) ≤ nI w from nI_ge (b := 3) (by omega) (by omega))]
    simp (disch := omega) only [gd_nI, sy_ix, ix_nI, nI_x3, nI_add, nI_1, lt_eq, h, mx_nI]
    exact ih (w + 1) (by omega) n (by omega)
theorem m6_ask_loop {σ : St} {N : Nat} {f : Nat → Nat} (hN : N ≤ 16) (h5 : σ 5 5 = nI N) (hf : ∀ i, i < N → m6_mostAlike (nI i) σ = some (nI (f i), σ)) (hf4 : ∀ i, f i ≤ 4) : ∀ (k i : Nat), i + k = N → ∀ n, k < n → ∀ x y : Int32, ((i = 0 ∧ x = -1 ∧ y = 5) ∨ (0 < i ∧ x = nI (sp_am f (i - 1)) ∧ y = nI (f (sp_am f (i - 1))))) → m6_ask_L23 (fun y9 σ10 => some (y9, σ10)) n x y (nI i) σ = some (sp_as f N, σ) := by
  intro k
  induction k with
  | zero =>
    intro i hi n hn x y h
    obtain ⟨n, rfl⟩ : ∃ m, n = m + 1 := ⟨n - 1, by omega⟩
    show m6_ask_L23b _ _ _ _ _ σ = _
    unfold m6_ask_L23b sp_as
    rw [h5, if_pos (nI_le (by omega) (by omega))]
    rcases h with ⟨e, rfl, rfl⟩ | ⟨e, rfl, rfl⟩
    · rw [if_pos (by omega)]
    · rw [if_neg (by omega), show N = i by omega]
  | succ k ih =>
    intro i hi n hn x y h
    obtain ⟨n, rfl⟩ : ∃ m, n = m + 1 := ⟨n - 1, by omega⟩
    have hi4 := hf4 i
    show m6_ask_L23b _ _ _ _ _ σ = _
    unfold m6_ask_L23b
    rw [h5, if_neg (nI_ge (by omega) (by omega)), hf i (by omega), bd_some, nI_1]
    rcases h with ⟨rfl, rfl, rfl⟩ | ⟨e, rfl, rfl⟩
    · rw [if_neg (show ¬ (5 : Int32) ≤ nI (f 0) from nI_ge (b := 5) (by omega) (by omega))]
      exact ih 1 (by omega) n (by omega) _ _ (Or.inr ⟨by omega, rfl, rfl⟩)
    · have hb4 := hf4 (sp_am f (i - 1))
      have es : sp_am f i = if f i < f (sp_am f (i - 1)) then i else sp_am f (i - 1) := by
        obtain ⟨m, rfl⟩ : ∃ m, i = m + 1 := ⟨i - 1, by omega⟩
        exact sp_am_s f m
      by_cases c : f (sp_am f (i - 1)) ≤ f i
      · rw [if_pos (nI_le c (by omega))]
        rw [if_neg (by omega)] at es
        exact ih (i + 1) (by omega) n (by omega) _ _ (Or.inr ⟨by omega, by rw [show i + 1 - 1 = i by omega, es], by rw [show i + 1 - 1 = i by omega, es]⟩)
      · rw [if_neg (nI_ge (by omega) (by omega))]
        rw [if_pos (by omega)] at es
        exact ih (i + 1) (by omega) n (by omega) _ _ (Or.inr ⟨by omega, by rw [show i + 1 - 1 = i by omega, es], by rw [show i + 1 - 1 = i by omega, es]⟩)
theorem cs_N {σ : St} {T : Td} (h : isCS σ T) : σ 5 5 = nI (bN (sp_told T)) := h.2.2.1.2.2.1
theorem m6_askB {σ0 σ : St} {T : Td} (hT : okT T) (hC : isCT σ0 T) {B : Bd} (ho : okB B) {k : Nat} (hk : k < 11) (h5 : σ0 5 5 = nI (bN B)) (hW : cWk σ0 σ) (hB : isB σ 15 B) (hz : ∀ j, j < 48 → σ 51 j = 0) : Ok (sy_bd (m6_countAlike_L21 (fun σ15 => some ((), σ15)) sy_FU (nI k) 0 σ) (fun _ σ3 => m6_ask_L23 (fun y9 σ10 => some (y9, σ10)) sy_FU (-1) 5 0 σ3)) (fun y σ' => y = sp_ask T B k ∧ cWk σ0 σ') := by
  have hN := ho.2.1
  refine ok_bd (m6_alike_out hT hC ho hk 4 0 (by omega) sy_FU (by show _ < 1000; omega) σ hW (fun _ => isB.le hB) (fun j hj w hw => hz _ (by omega))) (fun _ σ1 g => ?_)
  have e := m6_ask_loop (σ := σ1) (N := bN B) (f := sp_af T B k) hN (by rw [g.1 5 (by omega)]; exact h5) (fun i hi => m6_mostAlike_loop (by omega) (fun w => sp_ca_le _ _ _ _) (g.2 i hi) 3 0 (by omega) sy_FU (by show _ < 1000; omega)) (fun i => sp_ma_le _ _) (bN B) 0 (Nat.zero_add _) sy_FU (by show _ < 1000; omega) (-1) 5 (Or.inl ⟨rfl, rfl, rfl⟩)
  rw [show m6_ask_L23 _ sy_FU (-1) 5 0 σ1 = _ from e]
  exact ok_some ⟨rfl, g.1⟩
theorem cl_ask {σ : St} {T : Td} (hT : okT T) (hC : isCT σ T) (a : Int32) : CL (m6_ask a σ) σ (an_ask T a) T := by
  have hP := (okB_told hT).1
  unfold m6_ask an_ask
  rw [m6_isPlayer_eq hC, bd_some, b01_0]
  by_cases ca : 0 ≤ a ∧ a ≤ nI (bP (sp_told T)) - 1
  · rw [if_pos ca, if_pos ca]
    obtain ⟨k, hk, rfl⟩ := nI_rngP (by omega) ca
    rw [show sy_ix (nI k) = k from nI_clamp (by omega)]
    unfold m6_countAlike
    have key : Ok (sy_bd (mj7_fill_53178 51 48 0 σ) (fun _ σ1 => sy_bd (m0_become 15 5 σ1) (fun _ σ2 => sy_bd (m6_countAlike_L21 (fun σ15 => some ((), σ15)) sy_FU (nI k) 0 σ2) (fun _ σ3 => m6_ask_L23 (fun y9 σ10 => some (y9, σ10)) sy_FU (-1) 5 0 σ3)))) (fun y σ' => y = sp_ask T (sp_told T) k ∧ cWk σ σ') := by
      refine ok_bd (fill_sp (by omega)) (fun _ σ1 g1 => ?_)
      have c1 : isCS σ1 T := (show cWk σ σ1 from fun q z => g1.1 q (by omega)).CS hC.1
      refine ok_bd (m0_become_sp c1.2.2.1 (okB_told hT)) (fun _ σ2 g2 => ?_)
      exact m6_askB hT hC (okB_told hT) (by omega) (cs_N hC.1) (fun q z => by rw [g2.1 q (by omega), g1.1 q (by omega)]) g2.2 (fun j hj => by rw [g2.1 51 (by omega)]; exact g1.2 j hj)
    have e3 : ∀ {α β γ : Type} (r : Option (α × St)) (f : α → St → Option (β × St)) (g : β → St → Option (γ × St)), sy_bd (sy_bd r f) g = sy_bd r (fun x s => sy_bd (f x s) g) := by
      intro α β γ r f g
      cases r <;> rfl
    rw [e3]
    simp only [e3]
    exact ok_mono key (fun y σ2 q => ⟨q.1, q.2.cl, q.2.CT hC⟩)
  · rw [if_neg ca, if_neg ca]
    exact ok_some ⟨rfl, clF.rf, hC⟩
/-! the reference's -/
theorem sp_bits_4 (p : Nat → Prop) [DecidablePred p] (a : Nat) (ha : a < 4) : (sp_bits p 4 >>> (nI a &&& 31)) &&& 1 = 1 ↔ p a := by
  have e3 : sp_bits p 4 = if p 3 then sp_bits p 3 ||| sp_m1 3 else sp_bits p 3 := rfl
  have e2 : sp_bits p 3 = if p 2 then sp_bits p 2 ||| sp_m1 2 else sp_bits p 2 := rfl
  have e1 : sp_bits p 2 = if p 1 then sp_bits p 1 ||| sp_m1 1 else sp_bits p 1 := rfl
  have e0 : sp_bits p 1 = if p 0 then 0 ||| sp_m1 0 else 0 := rfl
  rw [e3, e2, e1, e0]
  by_cases h0 : p 0 <;> by_cases h1 : p 1 <;> by_cases h2 : p 2 <;> by_cases h3 : p 3 <;>
    simp only [h0, h1, h2, h3, if_true, if_false] <;>
    (rcases (show a = 0 ∨ a = 1 ∨ a = 2 ∨ a = 3 by omega) with rfl | rfl | rfl | rfl <;>
      simp only [h0, h1, h2, h3, iff_true, iff_false] <;> decide +kernel)
theorem m7_alike_in {σ : St} {g : Int32} {i a : Nat} {p : Nat → Prop} [DecidablePred p] {o : Nat → Int32} {E : Int32 → Int32 → Int32 → Int32 → Int32 → St → Option (Int32 × St)} {m : Int32} (hi : i < 16) (ha : a < 4) (hb : ∀ v, v < 4 → ((g >>> (nI v &&& 31)) &&& 1 = 1 ↔ p v)) (hw : ∀ v, v < 4 → σ 80 (16 * v + i) = o v) : ∀ (k b : Nat), b + k = 4 → ∀ n, k < n → m7_alike_L17 E n g (nI i) m (nI a) (nI (if p a then sp_ca p o (o a) b else 0)) (nI b) σ = E g (nI i) m (nI a) (nI (if p a then sp_ca p o (o a) 4 else 0)) σ := by
  intro k
  induction k with
  | zero =>
    intro b hb' n hn
    obtain ⟨n, rfl⟩ : ∃ m, n = m + 1 := ⟨n - 1, by omega⟩
    show m7_alike_L17b _ _ _ _ _ _ _ _ σ = _
    unfold m7_alike_L17b
    rw [show b = 4 by omega, if_pos (by decide)]
  | succ k ih =>
    intro b hb' n hn
    obtain ⟨n, rfl⟩ : ∃ m, n = m + 1 := ⟨n - 1, by omega⟩
    have hk := ih (b + 1) (by omega) n (by omega)
    show m7_alike_L17b _ _ _ _ _ _ _ _ σ = _
    unfold m7_alike_L17b
    rw [if_neg (show ¬ (4 : Int32) ≤ nI b from nI_ge (b := 4) (by omega) (by omega)), m7_isIn_eq, bd_some, b01_0]
    by_cases c : p a
    · rw [if_pos ((hb a ha).mpr c), m7_isIn_eq, bd_some, b01_0]
      rw [if_pos c, if_pos c, sp_ca_s] at hk
      rw [if_pos c, if_pos c]
      by_cases d : p b
      · rw [if_pos ((hb b (by omega)).mpr d)]
        have e1 := hw a ha
        have e2 := hw b (by omega)
        simp (disch := omega) only [nI_16, nI_add, gd_nI, sy_ix, ix_nI, lt_eq, e1, e2, nI_a0, nI_1]
        by_cases e : o a = o b
        · rw [if_pos e]
          rw [if_pos ⟨d, e.symm⟩] at hk
          exact hk
        · rw [if_neg e]
          rw [if_neg (fun q => e q.2.symm)] at hk
          exact hk
      · rw [if_neg (fun q => d ((hb b (by omega)).mp q)), lt_eq, nI_a0, nI_1]
        rw [if_neg (fun q => d q.1)] at hk
        exact hk
    · rw [if_neg (fun q => c ((hb a ha).mp q)), lt_eq, nI_a0, nI_1]
      rw [if_neg c, if_neg c] at hk
      rw [if_neg c, if_neg c]
      exact hk
theorem m7_alike_out {σ : St} {g : Int32} {i : Nat} {p : Nat → Prop} [DecidablePred p] {o : Nat → Int32} (hi : i < 16) (hb : ∀ v, v < 4 → ((g >>> (nI v &&& 31)) &&& 1 = 1 ↔ p v)) (hw : ∀ v, v < 4 → σ 80 (16 * v + i) = o v) : ∀ (k a : Nat), a + k = 4 → ∀ n, k < n → m7_alike_L5 (fun y27 σ28 => some (y27, σ28)) n g (nI i) (nI (sp_mx (fun a => if p a then sp_ca p o (o a) 4 else 0) a)) (nI a) σ = some (nI (sp_mb p o), σ) := by
  intro k
  induction k with
  | zero =>
    intro a ha n hn
    obtain ⟨n, rfl⟩ : ∃ m, n = m + 1 := ⟨n - 1, by omega⟩
    show m7_alike_L5b _ _ _ _ _ _ σ = _
    unfold m7_alike_L5b
    rw [show a = 4 by omega, if_pos (by decide)]
    rfl
  | succ k ih =>
    intro a ha n hn
    obtain ⟨n, rfl⟩ : ∃ m, n = m + 1 := ⟨n - 1, by omega⟩
    have hc : ∀ v, (if p v then sp_ca p o (o v) 4 else 0) ≤ 4 := fun v => by
      have := sp_ca_le p o (o v) 4
      split <;> omega
    have hm := sp_mx_le (c := fun a => if p a then sp_ca p o (o a) 4 else 0) (M := 4) a (fun i _ => hc i)
    have hca := hc a
    show m7_alike_L5b _ _ _ _ _ _ σ = _
    unfold m7_alike_L5b
    rw [if_neg (show ¬ (4 : Int32) ≤ nI a from nI_ge (b := 4) (by omega) (by omega))]
    have e := m7_alike_in (σ := σ) (g := g) (i := i) (a := a) (p := p) (o := o) (m := nI (sp_mx (fun a => if p a then sp_ca p o (o a) 4 else 0) a)) (E := fun y19 y20 y21 y22 y23 σ24 => sy_bd (m7_greater y23 y21 σ24) (fun r26 σ25 => m7_alike_L5 (fun y27 σ28 => some (y27, σ28)) n y19 y20 r26 (y22 + 1) σ25)) hi (by omega) hb hw 4 0 (by omega) sy_FU (by show _ < 1000; omega)
    have z0 : nI (if p a then sp_ca p o (o a) 0 else 0) = 0 := by
      show nI (if p a then 0 else 0) = 0
      split <;> rfl
    rw [z0] at e
    refine Eq.trans e ?_
    rw [gr_nI (by omega) (by omega), bd_some, nI_1]
    exact ih (a + 1) (by omega) n (by omega)
theorem m7_alike_eq {σ : St} {T : Td} {B : Bd} (ho : okB B) {k i : Nat} (hi : i < bN B) (hY : isWy σ B k 4) : m7_alike (sp_bits (fun v => sp_fit T (sp_setLe B k (nI v))) 4) (nI i) σ = some (nI (sp_af T B k i), σ) := by
  have hN := ho.2.1
  unfold m7_alike
  have e := m7_alike_out (σ := σ) (g := sp_bits (askP T B k) 4) (i := i) (p := askP T B k) (o := askO B k i) (by omega) (fun v hv => sp_bits_4 _ v hv) (fun v hv => hY v hv i hi) 4 0 (by omega) sy_FU (by show _ < 1000; omega)
  refine Eq.trans e ?_
  rw [sp_mab (p := askP T B k) (o := askO B k i) (fun v => (sp_ag_run (B := sp_setLe B k (nI v)) ho.2.1 24).2.2 i)]
  rfl
theorem m7_askOf_loop {σ : St} {g : Int32} {N : Nat} {f : Nat → Nat} (hN : N ≤ 16) (h9 : σ 61 9 = nI N) (hf : ∀ i, i < N → m7_alike g (nI i) σ = some (nI (f i), σ)) (hf4 : ∀ i, f i ≤ 4) : ∀ (k i : Nat), i + 1 + k = N → ∀ n, k < n → m7_askOf_L22 (fun y10 σ11 => some (y10, σ11)) n g (nI (sp_am f i)) (nI (i + 1)) σ = some (nI (sp_am f (N - 1)), σ) := by
  intro k
  induction k with
  | zero =>
    intro i hi n hn
    obtain ⟨n, rfl⟩ : ∃ m, n = m + 1 := ⟨n - 1, by omega⟩
    show m7_askOf_L22b _ _ _ _ _ σ = _
    unfold m7_askOf_L22b
    rw [h9, if_pos (nI_le (by omega) (by omega)), show N - 1 = i by omega]
  | succ k ih =>
    intro i hi n hn
    obtain ⟨n, rfl⟩ : ∃ m, n = m + 1 := ⟨n - 1, by omega⟩
    have hk := ih (i + 1) (by omega) n (by omega)
    have hl := sp_am_le f i
    have h1 := hf4 (i + 1)
    have h2 := hf4 (sp_am f i)
    rw [sp_am_s] at hk
    show m7_askOf_L22b _ _ _ _ _ σ = _
    unfold m7_askOf_L22b
    rw [h9, if_neg (nI_ge (by omega) (by omega)), hf (i + 1) (by omega), bd_some, hf (sp_am f i) (by omega), bd_some, nI_1]
    by_cases c : f (sp_am f i) ≤ f (i + 1)
    · rw [if_pos (nI_le c (by omega))]
      rw [if_neg (by omega)] at hk
      exact hk
    · rw [if_neg (nI_ge (by omega) (by omega))]
      rw [if_pos (by omega)] at hk
      exact hk
theorem upd_self (f : Nat → Int32) (k : Nat) : upd f k (f k) = f := by
  funext j
  unfold upd
  by_cases e : j = k
  · rw [if_pos e, e]
  · rw [if_neg e]
theorem sp_le_self (B : Bd) (k : Nat) : sp_setLe B k (ble B k) = B := by
  unfold sp_setLe
  rw [upd_self]
  rfl
theorem sp_so_self (B : Bd) (k : Nat) : sp_setSo B k (bso B k) = B := by
  unfold sp_setSo
  rw [upd_self]
  rfl
theorem m7_wasteOf_sp2 {σ : St} {T : Td} (hT : okT T) (hM : isMT σ T) {B : Bd} (ho : okB B) (hB : isM σ B) {k : Nat} (hk : k < bP B) : Ok (m7_wasteOf (nI k) σ) (fun y σ' => y = sp_bits (fun v => sp_fit T (sp_setLe B k (nI v))) 4 ∧ mW σ σ' ∧ isWy σ' B k 4 ∧ isM σ' B) := by
  have hP := ho.1
  unfold m7_wasteOf
  simp (disch := omega) only [nI_2, nI_1, gd_nI, sy_ix, ix_nI, lt_eq]
  rw [(hB.2.1 k hk).2.1]
  refine ok_mono (m7_wasteOf_loop hT hM ho (show k < 11 by omega) (ble B k) 4 0 (by omega) sy_FU (by show _ < 1000; omega) σ ⟨fun _ _ => rfl, fun _ _ => rfl⟩ (fun _ => isM.le hB) (fun v hv => by omega)) (fun y σ1 g => ⟨g.1, g.2.1, g.2.2.1, ?_⟩)
  have h := g.2.2.2
  rw [sp_le_self] at h
  exact h
theorem m7_askOf_sp {σ : St} {T : Td} (hT : okT T) (hM : isMT σ T) {B : Bd} (ho : okB B) (hB : isM σ B) {k : Nat} (hk : k < bP B) : Ok (m7_askOf (nI k) σ) (fun y σ' => y = sp_ask T B k ∧ mW σ σ' ∧ isM σ' B) := by
  have hN := ho.2.1
  unfold m7_askOf sp_ask sp_as
  refine ok_bd (m7_wasteOf_sp2 hT hM ho hB hk) (fun y σ1 g => ?_)
  obtain ⟨rfl, g1, g2, g4⟩ := g
  have g3 := g4.2.2.1
  rw [g3]
  by_cases c : bN B = 0
  · rw [if_pos (show nI (bN B) ≤ 0 by rw [c]; decide), if_pos c]
    show Ok (m7_askOf_L22b (m7_askOf_L22 _ 999) _ _ _ _ σ1) _
    unfold m7_askOf_L22b
    rw [g3, if_pos (show nI (bN B) ≤ 1 by rw [c]; decide)]
    exact ok_some ⟨rfl, g1, g4⟩
  · rw [if_neg (nI_nle (by omega) (by omega)), if_neg c]
    have e := m7_askOf_loop (σ := σ1) (f := sp_af T B k) hN g3 (fun i hi => m7_alike_eq (T := T) ho hi g2) (fun i => sp_ma_le _ _) (bN B - 1) 0 (by omega) sy_FU (by show _ < 1000; omega)
    rw [show m7_askOf_L22 _ sy_FU _ 0 1 σ1 = _ from e]
    exact ok_some ⟨rfl, g1, g4⟩
theorem md_ask {σ : St} {T : Td} (hT : okT T) (hM : isMT σ T) (a : Int32) : MD (m7_ask a σ) σ (an_ask T a) T := by
  have hP := (okB_told hT).1
  unfold m7_ask an_ask
  refine md_find hT hM (fun σ1 f1 m1 b1 r1 => ?_)
  rw [m7_isPlayer_eq, bd_some, b01_0, b1.1]
  by_cases ca : 0 ≤ a ∧ a ≤ nI (bP (sp_told T)) - 1
  · rw [if_pos ca, if_pos ca]
    obtain ⟨k, hk, rfl⟩ := nI_rngP (by omega) ca
    rw [show sy_ix (nI k) = k from nI_clamp (by omega)]
    exact ok_bd (m7_askOf_sp hT m1 (okB_told hT) b1 hk) (fun y σ2 g => ok_some ⟨g.1, f1.tr g.2.1.wk.md, g.2.1.wk.MT m1⟩)
  · rw [if_neg ca, if_neg ca]
    exact ok_some ⟨rfl, f1, m1⟩
