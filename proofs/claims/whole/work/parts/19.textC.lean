/-! ===== the class reads the texts ===== -/
def sp_room (k : Nat) : Nat := if k = 0 then 32 else 47
def sp_most (k : Nat) : Nat := if k = 0 then 11 else 16
/-- the text of kind k, n bytes b, at cell c of the class -/
def isTx (σ : St) (c k n : Nat) (b : Nat → Nat) : Prop := σ c 0 = nI k ∧ σ c 1 = nI (sp_room k) ∧ σ c 2 = nI (sp_most k) ∧ σ c 4 = nI n ∧ n ≤ sp_room k ∧ ∀ j, j < n → σ (c + 1) j = nI (b j) ∧ b j < 256
theorem m5_upTo_eq {b lo m : Nat} (hb : b < 256) (hl : lo < 256) (hm : m < 256) (σ : St) : m5_upTo (nI b) (nI lo) (nI m) σ = some (sp_w1 (if lo ≤ b ∧ b ≤ lo + m - 1 ∧ 0 < m then some (b - lo) else none), σ) := by
  unfold m5_upTo
  rw [nI_add]
  by_cases c1 : b < lo
  · rw [if_pos (nI_lt c1 (by omega)), if_neg (by omega)]; rfl
  · rw [if_neg (nI_nlt (by omega) (by omega))]
    by_cases c2 : lo + m ≤ b
    · rw [if_pos (nI_le c2 (by omega)), if_neg (by omega)]; rfl
    · rw [if_neg (nI_ge (by omega) (by omega)), if_pos (by omega), pk_sub (by omega)]; rfl
theorem m5_sortOf_eq {b : Nat} (hb : b < 256) (σ : St) : m5_sortOf (nI b) σ = some (sp_w1 (sp_v 0 0 b), σ) := by
  unfold m5_sortOf sp_v
  rw [show (116 : Int32) = nI 116 from rfl, show (104 : Int32) = nI 104 from rfl, show (99 : Int32) = nI 99 from rfl]
  simp (disch := omega) only [nI_eq, if_true]
  by_cases c1 : b = 99
  · subst c1; rfl
  · rw [if_neg c1]
    by_cases c2 : b = 104
    · subst c2; rfl
    · rw [if_neg c2]
      by_cases c3 : b = 116
      · subst c3; rfl
      · rw [if_neg c3, if_neg c3, if_neg c2, if_neg c1]; rfl
theorem m5_meaning_eq {σ : St} {c k q b : Nat} (hk : k < 2) (hq : q < 2) (hb : b < 256) (h0 : σ c 0 = nI k) : m5_meaning c (nI b) (nI q) σ = some (sp_w1 (sp_v k q b), σ) := by
  unfold m5_meaning
  rw [h0, show m5_upTo (nI b) 48 4 σ = _ from m5_upTo_eq (lo := 48) (m := 4) hb (by omega) (by omega) σ, show m5_upTo (nI b) 97 24 σ = _ from m5_upTo_eq (lo := 97) (m := 24) hb (by omega) (by omega) σ, show m5_upTo (nI b) 97 11 σ = _ from m5_upTo_eq (lo := 97) (m := 11) hb (by omega) (by omega) σ, m5_sortOf_eq hb]
  simp (disch := omega) only [nI_e0, bd_some]
  rcases (show k = 0 ∨ k = 1 by omega) with rfl | rfl
  · rw [if_pos rfl]
    rcases (show q = 0 ∨ q = 1 by omega) with rfl | rfl
    · rw [if_pos rfl]
    · rw [if_neg (by omega)]
      unfold sp_v
      simp
  · rw [if_neg (by omega)]
    rcases (show q = 0 ∨ q = 1 by omega) with rfl | rfl
    · rw [if_pos rfl]
      unfold sp_v
      simp
    · rw [if_neg (by omega)]
      unfold sp_v
      simp
theorem sp_w1_1 (o : Option Nat) (h : ∀ v, o = some v → v < 2 ^ 31) : sp_w1 o = -1 ↔ ¬ o.isSome = true := by
  cases o with
  | none => simp [sp_w1]
  | some v =>
    simp only [sp_w1, Option.isSome_some, not_true_eq_false, iff_false]
    intro q
    have h1 := congrArg Int32.toInt q
    rw [nI_toInt (h v rfl)] at h1
    have e : (-1 : Int32).toInt = -1 := by decide
    omega
theorem m5_mayStand_eq {σ : St} {c k q b : Nat} (hk : k < 2) (hq : q < 3) (hb : b < 256) (h0 : σ c 0 = nI k) : m5_mayStand c (nI b) (nI q) σ = some (b01 ((sp_v k q b).isSome = true), σ) := by
  unfold m5_mayStand
  rw [show (59 : Int32) = nI 59 from rfl]
  simp (disch := omega) only [nI_e2, nI_eq, zg_0, zg_1]
  by_cases c2 : q = 2
  · subst c2
    rw [if_pos rfl]
    have e : sp_v k 2 b = if b = 59 then some 0 else none := by unfold sp_v; simp
    rw [e]
    by_cases z : b = 59
    · rw [if_pos z, if_pos z]; rfl
    · rw [if_neg z, if_neg z]; rfl
  · rw [if_neg c2, m5_meaning_eq hk (by omega) hb h0, bd_some]
    have hw := sp_w1_1 (sp_v k q b) (fun v hv => by have := sp_v_lt hb hv; omega)
    by_cases z : (sp_v k q b).isSome = true
    · rw [if_neg (fun p => hw.mp p z)]
      unfold b01; rw [if_pos z]
    · rw [if_pos (hw.mpr z)]
      unfold b01; rw [if_neg z]
theorem m5_faultPlace_loop {σ : St} {c k n : Nat} {b : Nat → Nat} (hk : k < 2) (hT : isTx σ c k n b) (Eb : Int32 → St → Option (Int32 × St)) (Ee : St → Option (Int32 × St)) : ∀ (m i : Nat), i + m = n → ∀ f, m < f → (∀ j, j < i → sp_ok k b j) → m5_faultPlace_L2 c Eb Ee f (nI i) σ = if sp_ff k b n < n then Eb (nI (sp_ff k b n)) σ else Ee σ := by
  obtain ⟨h0, h1, h2, h4, h5, h6⟩ := hT
  have hr : sp_room k ≤ 47 := by unfold sp_room; split <;> omega
  have hr2 : ∀ i, i < sp_room k → i / 3 < sp_most k := by
    intro i hi
    unfold sp_room at hi
    unfold sp_most
    split at hi
    · rename_i z; rw [if_pos z]; omega
    · rename_i z; rw [if_neg z]; omega
  have hm : sp_most k ≤ 16 := by unfold sp_most; split <;> omega
  intro m
  induction m with
  | zero =>
    intro i hi f hf hok
    obtain ⟨f, rfl⟩ : ∃ m, f = m + 1 := ⟨f - 1, by omega⟩
    show m5_faultPlace_L2b _ _ _ _ _ σ = _
    unfold m5_faultPlace_L2b
    have e : i = n := by omega
    subst e
    rw [h4, if_pos (nI_le (by omega) (by omega)), sp_ff_all i hok, if_neg (by omega)]
  | succ m ih =>
    intro i hi f hf hok
    obtain ⟨f, rfl⟩ : ∃ m, f = m + 1 := ⟨f - 1, by omega⟩
    obtain ⟨b1, b2⟩ := h6 i (by omega)
    have := hr2 i (by omega)
    show m5_faultPlace_L2b _ _ _ _ _ σ = _
    unfold m5_faultPlace_L2b
    rw [h4, if_neg (nI_ge (by omega) (by omega)), dv_ne (by decide), h2, rem3 (by omega), div3 (by omega), if_neg (nI_ge this (by omega))]
    simp (disch := omega) only [gd_nI, sy_ix, ix_nI, b1]
    rw [dv_ne (by decide), m5_mayStand_eq hk (by omega) b2 h0, bd_some, b01_0]
    by_cases c1 : sp_ok k b i
    · rw [if_pos c1, nI_1]
      exact ih (i + 1) (by omega) f (by omega) (fun j hj => by
        by_cases e : j = i
        · subst e; exact c1
        · exact hok j (by omega))
    · rw [if_neg c1, sp_ff_at hok c1 n (by omega), if_pos (by omega)]
theorem m5_faultPlace_eq {σ : St} {c k n : Nat} {b : Nat → Nat} (hk : k < 2) (hT : isTx σ c k n b) : m5_faultPlace c σ = some (sp_flt k n b, σ) := by
  have hr : sp_room k ≤ 47 := by unfold sp_room; split <;> omega
  have hn := hT.2.2.2.2.1
  unfold m5_faultPlace
  rw [show (0 : Int32) = nI 0 from rfl, m5_faultPlace_loop hk hT _ _ n 0 (by omega) sy_FU (by show _ < 1000; omega) (fun j hj => by omega)]
  unfold sp_flt
  by_cases c1 : sp_ff k b n < n
  · rw [if_pos c1, if_pos c1]
  · rw [if_neg c1, if_neg c1, hT.2.2.2.1]
    by_cases c2 : n = 0
    · rw [if_pos (by rw [c2]), if_pos (Or.inl c2)]
    · rw [if_neg (fun q => c2 ((nI_eq (by omega) (by omega)).mp q)), dv_ne (by decide), rem3 (by omega)]
      by_cases c3 : n % 3 = 2
      · rw [if_pos (by rw [c3]; rfl), if_pos (Or.inr c3)]
      · rw [if_neg (fun q => c3 ((nI_e2 (by omega)).mp q)), if_neg (fun q => by rcases q with q | q; exact c2 q; exact c3 q)]
theorem sp_flt_1 {k n : Nat} {b : Nat → Nat} (hn : n < 2 ^ 31) : sp_flt k n b = -1 ↔ sp_wl k n b := by
  have hle := sp_ff_le k b n
  have hm : ∀ x : Nat, x < 2 ^ 31 → ¬ (nI x = -1) := fun x hx q => by
    have h1 := congrArg Int32.toInt q
    rw [nI_toInt hx] at h1
    have e : (-1 : Int32).toInt = -1 := by decide
    omega
  unfold sp_flt
  by_cases c1 : sp_ff k b n < n
  · rw [if_pos c1]
    exact ⟨fun q => absurd q (hm _ (by omega)), fun q => by have := q.1; omega⟩
  · rw [if_neg c1]
    by_cases c2 : sp_end n
    · rw [if_pos c2]
      exact ⟨fun _ => ⟨by omega, c2⟩, fun _ => rfl⟩
    · rw [if_neg c2]
      exact ⟨fun q => absurd q (hm _ hn), fun q => absurd q.2 c2⟩
theorem m5_things_eq {σ : St} {c k n : Nat} {b : Nat → Nat} (hk : k < 2) (hT : isTx σ c k n b) : m5_things c σ = some (nI (sp_th k n b), σ) := by
  have hr : sp_room k ≤ 47 := by unfold sp_room; split <;> omega
  have hn := hT.2.2.2.2.1
  unfold m5_things
  rw [m5_faultPlace_eq hk hT, bd_some]
  unfold sp_th
  by_cases c1 : sp_wl k n b
  · rw [if_pos ((sp_flt_1 (by omega)).mpr c1), if_pos c1, dv_ne (by decide), hT.2.2.2.1, nI_1, div3 (by omega)]
  · rw [if_neg (fun q => c1 ((sp_flt_1 (by omega)).mp q)), if_neg c1]; rfl
theorem sp_th_le {k n : Nat} {b : Nat → Nat} (hn : n ≤ sp_room k) : sp_th k n b ≤ sp_most k ∧ 3 * sp_th k n b ≤ n + 1 := by
  unfold sp_th sp_room sp_most at *
  split
  · split at hn
    · rename_i z; rw [if_pos z]; omega
    · rename_i z; rw [if_neg z]; omega
  · omega
theorem m5_meaningAt_eq {σ : St} {c k n q i : Nat} {b : Nat → Nat} (hk : k < 2) (hq : q < 2) (hT : isTx σ c k n b) (hi : i < sp_th k n b) : m5_meaningAt c (nI i) (nI q) σ = some (nI (sp_val k b q i), σ) := by
  have hr : sp_room k ≤ 47 := by unfold sp_room; split <;> omega
  obtain ⟨h0, h1, h2, h4, h5, h6⟩ := hT
  obtain ⟨t1, t2⟩ := sp_th_le (b := b) h5
  have hw : sp_wl k n b := by
    by_cases z : sp_wl k n b
    · exact z
    · unfold sp_th at hi; rw [if_neg z] at hi; omega
  obtain ⟨b1, b2⟩ := h6 (3 * i + q) (by omega)
  unfold m5_meaningAt
  rw [lt_eq, show nI i * 3 = nI (i * 3) from pk_mul i 3, nI_add, show i * 3 + q = 3 * i + q by omega, if_neg (nI_pos (by omega)), h4, if_neg (nI_ge (by omega) (by omega))]
  simp (disch := omega) only [gd_nI, sy_ix, ix_nI, b1]
  rw [m5_meaning_eq hk hq b2 h0, bd_some]
  have hs := sp_ff_ok hw.1 (3 * i + q) (by omega)
  unfold sp_ok at hs
  rw [show (3 * i + q) % 3 = q by omega] at hs
  obtain ⟨v, hv⟩ := Option.isSome_iff_exists.mp hs
  unfold sp_val
  rw [hv]; rfl
