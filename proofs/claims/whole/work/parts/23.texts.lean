/-! ===== promises 2 to 7 ===== -/
def t_text (T : Td) (k n : Nat) (b : Nat → Nat) : Td := if k = 0 then ((n, b), T.2) else (T.1, (n, b), T.2.2)
theorem t_text_N {T : Td} {k n : Nat} {b : Nat → Nat} (hk : k < 2) (q : Nat) (hq : q < 2) : tN (t_text T k n b) q = if q = k then n else tN T q := by
  unfold t_text tN
  rcases (show k = 0 ∨ k = 1 by omega) with rfl | rfl <;> rcases (show q = 0 ∨ q = 1 by omega) with rfl | rfl <;> simp
theorem t_text_B {T : Td} {k n : Nat} {b : Nat → Nat} (hk : k < 2) (q : Nat) (hq : q < 2) : tB (t_text T k n b) q = if q = k then b else tB T q := by
  unfold t_text tB
  rcases (show k = 0 ∨ k = 1 by omega) with rfl | rfl <;> rcases (show q = 0 ∨ q = 1 by omega) with rfl | rfl <;> simp
theorem t_text_r {T : Td} {k n : Nat} {b : Nat → Nat} : (t_text T k n b).2.2 = T.2.2 := by
  unfold t_text
  split <;> rfl
theorem okT_text {T : Td} {k n : Nat} {b : Nat → Nat} (hk : k < 2) (hn : n ≤ sp_room k) (hb : ∀ j, j < n → b j < 256) (h : okT T) : okT (t_text T k n b) := by
  obtain ⟨h1, h2⟩ := h
  have e := t_text_r (T := T) (k := k) (n := n) (b := b)
  refine ⟨fun q hq => ?_, ?_⟩
  · rw [t_text_N hk q hq, t_text_B hk q hq]
    by_cases c : q = k
    · subst c
      rw [if_pos rfl, if_pos rfl]
      exact ⟨hn, hb⟩
    · rw [if_neg c, if_neg c]
      exact h1 q hq
  · unfold tBag tE tKd tBt tH tHn tHi tF tS at h2 ⊢
    rw [e]
    exact h2
/-- what else of the class holds a told thing, texts and bands of texts left out -/
def isCP (σ : St) (T : Td) : Prop := (σ 5 9 = nI (tBag T) ∧ σ 5 10 = nI (tE T) ∧ (∀ e, e < tE T → σ 13 e = nI (tKd T e) ∧ σ 14 e = nI (tBt T e)) ∧ σ 5 13 = 0 ∧ σ 5 14 = -1) ∧ (σ 43 2 = nI (tH T) ∧ ∀ j, j < tH T → σ 44 j = nI (tHn T j) ∧ σ 45 j = nI (tHi T j)) ∧ (∀ s, s < 4 → isSh σ T s) ∧ σ 0 16 = tL T
theorem isCS.p {σ : St} {T : Td} (h : isCS σ T) : isCP σ T := by
  obtain ⟨h1, h2, h3, h4, h5, h6⟩ := h
  exact ⟨⟨h3.2.2.2.2.2.1, h3.2.2.2.2.2.2.1, h3.2.2.2.2.2.2.2.1, h3.2.2.2.2.2.2.2.2.1, h3.2.2.2.2.2.2.2.2.2⟩, h4, h5, h6⟩
theorem isCP.of {a b : St} {T : Td} (h5 : ∀ j, (9 ≤ j) → b 5 j = a 5 j) (h : ∀ k, (13 ≤ k ∧ k ≤ 14) ∨ (43 ≤ k ∧ k ≤ 45) ∨ (53 ≤ k ∧ k ≤ 60) → b k = a k) (h0 : b 0 16 = a 0 16) (g : isCP a T) : isCP b T := by
  obtain ⟨g1, g2, g3, g4⟩ := g
  refine ⟨?_, ?_, fun s hs => (g3 s hs).of (h _ (by omega)) (h _ (by omega)), by rw [h0]; exact g4⟩
  · rw [h5 9 (by omega), h5 10 (by omega), h5 13 (by omega), h5 14 (by omega), h 13 (by omega), h 14 (by omega)]
    exact g1
  · rw [h 43 (by omega), h 44 (by omega), h 45 (by omega)]
    exact g2
theorem isCP.t {σ : St} {T T' : Td} (e : T'.2.2 = T.2.2) (h : isCP σ T) : isCP σ T' := by
  unfold isCP isSh tBag tE tKd tBt tH tHn tHi tF tS tI tL at h ⊢
  rw [e]
  exact h
theorem m6_takeTexts_sp {σ : St} {T : Td} (h1 : isTx σ 1 0 (tN T 0) (tB T 0)) (h2 : isTx σ 3 1 (tN T 1) (tB T 1)) (hP : isCP σ T) : Ok (m6_takeTexts σ) (fun _ σ' => clF σ σ' ∧ (∀ k, 1 ≤ k → k ≤ 4 → σ' k = σ k) ∧ isCT σ' T) := by
  unfold m6_takeTexts
  refine ok_bd (m0_takePlayers_sp (by omega) h1) (fun _ σ1 g1 => ?_)
  have h2' := g1.1.tx (c := 3) (by omega) h2
  refine ok_bd (m0_takeNotes_sp (by omega) h2') (fun _ σ2 g2 => ?_)
  refine ok_bd m6_unlearn_sp (fun _ σ3 g3 => ?_)
  have e5 : σ3 5 = σ2 5 := g3.1 5 (by omega) (by omega)
  have k1 : ∀ k, k ≠ 0 → k ≠ 5 → (k < 6 ∨ 12 < k) → ¬ (46 ≤ k ∧ k ≤ 49) → σ3 k = σ k := by
    intro k p0 p5 p q
    rw [g3.1 k p0 q, g2.1.1 k p5 (by omega), g1.1.1 k p5 (by omega)]
  have kp : isCP σ3 T := by
    refine hP.of (fun j hj => ?_) (fun k hk => k1 k (by omega) (by omega) (by omega) (by omega)) ?_
    · rw [e5, g2.1.2 j (by omega), g1.1.2 j (by omega)]
    · rw [g3.2.1, g2.1.1 0 (by omega) (by omega), g1.1.1 0 (by omega) (by omega)]
  refine ok_some ⟨fun k hk => k1 k (by omega) (by omega) (by omega) (by omega), fun k p q => k1 k (by omega) (by omega) (by omega) (by omega), ⟨?_, ?_, ?_, kp.2.1, kp.2.2.1, kp.2.2.2⟩, g3.2.2 T⟩
  · exact h1.of (k1 1 (by omega) (by omega) (by omega) (by omega)) (k1 2 (by omega) (by omega) (by omega) (by omega))
  · exact h2.of (k1 3 (by omega) (by omega) (by omega) (by omega)) (k1 4 (by omega) (by omega) (by omega) (by omega))
  · refine ⟨?_, fun k hk => ?_, ?_, ?_, ?_, kp.1.1, kp.1.2.1, kp.1.2.2.1, kp.1.2.2.2.1, kp.1.2.2.2.2⟩
    · rw [e5, g2.1.2 0 (by omega)]; exact g1.2.1
    · rw [g3.1 (5 + 1) (by omega) (by omega), g3.1 (5 + 2) (by omega) (by omega), g3.1 (5 + 3) (by omega) (by omega), g3.1 (5 + 4) (by omega) (by omega), g2.1.1 (5 + 1) (by omega) (by omega), g2.1.1 (5 + 2) (by omega) (by omega), g2.1.1 (5 + 3) (by omega) (by omega), g2.1.1 (5 + 4) (by omega) (by omega)]
      exact g1.2.2 k hk
    · rw [e5]; exact g2.2.1
    · rw [g3.1 (5 + 5) (by omega) (by omega), g3.1 (5 + 6) (by omega) (by omega)]; exact g2.2.2.1
    · rw [g3.1 (5 + 7) (by omega) (by omega)]; exact g2.2.2.2
theorem m6_textOf_eq {k : Nat} (hk : k < 2) (σ : St) : m6_textOf (nI k) σ = some (1 + 2 * k, σ) := by
  unfold m6_textOf
  rcases (show k = 0 ∨ k = 1 by omega) with rfl | rfl
  · rw [if_pos (by rfl)]
  · rw [if_neg (by decide)]
theorem is5_of {k : Nat} (hk : k < 2) : sy_is5 (1 + 2 * k) := by
  show 1 + 2 * k = 1 ∨ 1 + 2 * k = 3
  omega
theorem isCS.tx {σ : St} {T : Td} {k : Nat} (hk : k < 2) (h : isCS σ T) : isTx σ (1 + 2 * k) k (tN T k) (tB T k) := by
  rcases (show k = 0 ∨ k = 1 by omega) with rfl | rfl
  · exact h.1
  · exact h.2.1
/-- with another text: the class takes it -/
theorem cl_text {σ σ1 : St} {T : Td} {k n : Nat} {b : Nat → Nat} (hk : k < 2) (hC : isCT σ T) (hF : ∀ q, q ≠ 1 + 2 * k → q ≠ 2 + 2 * k → σ1 q = σ q) (hx : isTx σ1 (1 + 2 * k) k n b) : Ok (m6_takeTexts σ1) (fun _ σ' => clF σ σ' ∧ (∀ q, 1 ≤ q → q ≤ 4 → σ' q = σ1 q) ∧ isCT σ' (t_text T k n b)) := by
  have key : ∀ q, q < 2 → isTx σ1 (1 + 2 * q) q (tN (t_text T k n b) q) (tB (t_text T k n b) q) := by
    intro q hq
    rw [t_text_N hk q hq, t_text_B hk q hq]
    by_cases c : q = k
    · subst c
      rw [if_pos rfl, if_pos rfl]; exact hx
    · rw [if_neg c, if_neg c]
      exact (hC.1.tx hq).of (hF _ (by omega) (by omega)) (hF _ (by omega) (by omega))
  have hp : isCP σ1 (t_text T k n b) := (hC.1.p.of (fun j _ => by rw [hF 5 (by omega) (by omega)]) (fun q _ => hF q (by omega) (by omega)) (by rw [hF 0 (by omega) (by omega)])).t t_text_r
  refine ok_mono (m6_takeTexts_sp (key 0 (by omega)) (key 1 (by omega)) hp) (fun _ σ' h => ⟨fun q hq => ?_, h.2.1, h.2.2⟩)
  rw [h.1 q hq]
  exact hF q (by omega) (by omega)
def an_type (T : Td) (a b : Int32) : Int32 × Td := if (0 ≤ a ∧ a ≤ 1) ∧ (0 ≤ b ∧ b ≤ 255) then (if tN T (sy_ix a) = sp_room (sy_ix a) then (-4, T) else (nI (tN T (sy_ix a) + 1), t_text T (sy_ix a) (tN T (sy_ix a) + 1) (va_up (tB T (sy_ix a)) (tN T (sy_ix a)) (sy_ix b)))) else (-2, T)
def an_wipe (T : Td) (a : Int32) : Int32 × Td := if 0 ≤ a ∧ a ≤ 1 then (nI (tN T (sy_ix a)), t_text T (sy_ix a) 0 (tB T (sy_ix a))) else (-2, T)
def an_undo (T : Td) (a : Int32) : Int32 × Td := if 0 ≤ a ∧ a ≤ 1 then (if tN T (sy_ix a) = 0 then (-3, T) else (nI (tN T (sy_ix a) - 1), t_text T (sy_ix a) (tN T (sy_ix a) - 1) (tB T (sy_ix a)))) else (-2, T)
def an_fault (T : Td) (a : Int32) : Int32 := if 0 ≤ a ∧ a ≤ 1 then sp_flt (sy_ix a) (tN T (sy_ix a)) (tB T (sy_ix a)) else -2
def an_player (T : Td) (a w : Int32) : Int32 := if (0 ≤ a ∧ a ≤ nI (bP (sp_told T)) - 1) ∧ (0 ≤ w ∧ w ≤ 1) then (if w = 0 then bso (sp_told T) (sy_ix a) else ble (sp_told T) (sy_ix a)) else -2
def an_note (T : Td) (a w : Int32) : Int32 := if (0 ≤ a ∧ a ≤ 15) ∧ (0 ≤ w ∧ w ≤ 1) then (if sy_ix a < bN (sp_told T) then (if w = 0 then nI (bnb (sp_told T) (sy_ix a)) else nI (bnp (sp_told T) (sy_ix a))) else -1) else -2
/-- the class answers so -/
abbrev CL {α : Type} (r : Option (α × St)) (σ : St) (x : α) (T : Td) : Prop := Ok r (fun y σ' => y = x ∧ clF σ σ' ∧ isCT σ' T)
/-- the reference answers so -/
abbrev MD {α : Type} (r : Option (α × St)) (σ : St) (x : α) (T : Td) : Prop := Ok r (fun y σ' => y = x ∧ mdF σ σ' ∧ isMT σ' T)
theorem sp_room_47 (k : Nat) : sp_room k ≤ 47 := by unfold sp_room; split <;> omega
theorem isTx_app {σ : St} {c k n v : Nat} {b : Nat → Nat} (hv : v < 256) (h : isTx σ c k n b) (hr : n < sp_room k) : isTx (sy_sf (sy_sf σ (c + 1) n (nI v)) c 4 (nI (n + 1))) c k (n + 1) (va_up b n v) := by
  obtain ⟨h0, h1, h2, h4, h5, h6⟩ := h
  refine ⟨?_, ?_, ?_, ?_, by omega, fun j hj => ?_⟩
  · simp only [sf_at]; simp; exact h0
  · simp only [sf_at]; simp; exact h1
  · simp only [sf_at]; simp; exact h2
  · simp only [sf_at]; simp
  · simp only [sf_at]; simp
    unfold va_up
    by_cases e : j = n
    · simp [e]; exact hv
    · simp [e]; exact h6 j (by omega)
theorem isTx_cut {σ : St} {c k n m : Nat} {b : Nat → Nat} (h : isTx σ c k n b) (hm : m ≤ n) : isTx (sy_sf σ c 4 (nI m)) c k m b := by
  obtain ⟨h0, h1, h2, h4, h5, h6⟩ := h
  refine ⟨?_, ?_, ?_, ?_, by omega, fun j hj => ?_⟩
  · simp only [sf_at]; simp; exact h0
  · simp only [sf_at]; simp; exact h1
  · simp only [sf_at]; simp; exact h2
  · simp only [sf_at]; simp
  · rw [sf_n (by omega)]; exact h6 j (by omega)
theorem cl_type {σ : St} {T : Td} (hT : okT T) (hC : isCT σ T) (a b : Int32) : CL (m6_type a b σ) σ (an_type T a b).1 (an_type T a b).2 := by
  unfold m6_type an_type
  rw [m6_within_eq, bd_some, b01_0]
  by_cases ca : 0 ≤ a ∧ a ≤ 1
  · rw [if_pos ca, m6_within_eq, bd_some, b01_0]
    by_cases cb : 0 ≤ b ∧ b ≤ 255
    · rw [if_pos cb, if_pos (And.intro ca cb)]
      obtain ⟨k, hk, rfl⟩ := nI_rng (n := 1) (by omega) ca
      obtain ⟨v, hv, rfl⟩ := nI_rng (n := 255) (by omega) cb
      have hx := hC.1.tx (k := k) (by omega)
      have hr := sp_room_47 k
      rw [m6_textOf_eq (by omega), bd_some, if_pos (is5_of (by omega))]
      simp (disch := omega) only [sy_ix, ix_nI]
      unfold m5_append
      obtain ⟨x0, x1, x2, x4, x5, x6⟩ := id hx
      rw [x4, x1]
      by_cases cr : tN T k = sp_room k
      · rw [if_neg (nI_nlt (by omega) (by omega)), if_pos cr, zg_0, bd_some, if_pos rfl]
        exact ok_some ⟨rfl, clF.rf, hC⟩
      · rw [if_pos (nI_lt (by omega) (by omega)), if_neg cr, gd_nI (by omega) (by omega), lt_eq, lt_eq, zg_1, bd_some, if_neg (by decide)]
        rw [show sy_ix (nI (tN T k)) = tN T k from nI_clamp (by omega), sf_n (by omega), x4, nI_1]
        refine ok_bd (cl_text (by omega) hC (fun q p1 p2 => ?_) (isTx_app (v := v) (by omega) hx (by omega))) (fun _ σ2 g => ?_)
        · rw [sf_n (by omega), sf_n (by omega)]
        · refine ok_some ⟨?_, g.1, g.2.2⟩
          show σ2 (1 + 2 * k) 4 = _
          rw [g.2.1 _ (by omega) (by omega), sf_ss]
    · rw [if_neg cb, if_neg (fun q => cb q.2)]
      exact ok_some ⟨rfl, clF.rf, hC⟩
  · rw [if_neg ca, if_neg (fun q => ca q.1)]
    exact ok_some ⟨rfl, clF.rf, hC⟩
theorem cl_wipe {σ : St} {T : Td} (hT : okT T) (hC : isCT σ T) (a : Int32) : CL (m6_wipe a σ) σ (an_wipe T a).1 (an_wipe T a).2 := by
  unfold m6_wipe an_wipe
  rw [m6_within_eq, bd_some, b01_0]
  by_cases ca : 0 ≤ a ∧ a ≤ 1
  · rw [if_pos ca, if_pos ca]
    obtain ⟨k, hk, rfl⟩ := nI_rng (n := 1) (by omega) ca
    have hx := hC.1.tx (k := k) (by omega)
    rw [m6_textOf_eq (by omega), bd_some, if_pos (is5_of (by omega)), lt_eq, lt_eq, hx.2.2.2.1]
    simp (disch := omega) only [sy_ix, ix_nI]
    refine ok_bd (cl_text (by omega) hC (fun q p1 p2 => sf_n p1) (isTx_cut (m := 0) hx (by omega))) (fun _ σ2 g => ok_some ⟨rfl, g.1, g.2.2⟩)
  · rw [if_neg ca, if_neg ca]
    exact ok_some ⟨rfl, clF.rf, hC⟩
theorem cl_undo {σ : St} {T : Td} (hT : okT T) (hC : isCT σ T) (a : Int32) : CL (m6_undo a σ) σ (an_undo T a).1 (an_undo T a).2 := by
  unfold m6_undo an_undo
  rw [m6_within_eq, bd_some, b01_0]
  by_cases ca : 0 ≤ a ∧ a ≤ 1
  · rw [if_pos ca, if_pos ca]
    obtain ⟨k, hk, rfl⟩ := nI_rng (n := 1) (by omega) ca
    have hx := hC.1.tx (k := k) (by omega)
    have hr := sp_room_47 k
    have hn := hx.2.2.2.2.1
    rw [m6_textOf_eq (by omega), bd_some, if_pos (is5_of (by omega)), hx.2.2.2.1]
    simp (disch := omega) only [sy_ix, ix_nI]
    by_cases c0 : tN T k = 0
    · rw [if_pos ((nI_e0 (by omega)).mpr c0), if_pos c0]
      exact ok_some ⟨rfl, clF.rf, hC⟩
    · rw [if_neg (fun q => c0 ((nI_e0 (by omega)).mp q)), if_neg c0, lt_eq, show nI (tN T k) - 1 = nI (tN T k - 1) from pk_sub (b := 1) (by omega)]
      refine ok_bd (cl_text (by omega) hC (fun q p1 p2 => sf_n p1) (isTx_cut (m := tN T k - 1) hx (by omega))) (fun _ σ2 g => ok_some ⟨?_, g.1, g.2.2⟩)
      show σ2 (1 + 2 * k) 4 = _
      rw [g.2.1 _ (by omega) (by omega), sf_ss]
  · rw [if_neg ca, if_neg ca]
    exact ok_some ⟨rfl, clF.rf, hC⟩
theorem cl_fault {σ : St} {T : Td} (hT : okT T) (hC : isCT σ T) (a : Int32) : CL (m6_fault a σ) σ (an_fault T a) T := by
  unfold m6_fault an_fault
  rw [m6_within_eq, bd_some, b01_0]
  by_cases ca : 0 ≤ a ∧ a ≤ 1
  · rw [if_pos ca, if_pos ca]
    obtain ⟨k, hk, rfl⟩ := nI_rng (n := 1) (by omega) ca
    have hx := hC.1.tx (k := k) (by omega)
    rw [m6_textOf_eq (by omega), bd_some, if_pos (is5_of (by omega)), m5_faultPlace_eq (by omega) hx, bd_some]
    simp (disch := omega) only [sy_ix, ix_nI]
    exact ok_some ⟨rfl, clF.rf, hC⟩
  · rw [if_neg ca, if_neg ca]
    exact ok_some ⟨rfl, clF.rf, hC⟩
theorem m6_isPlayer_eq {σ : St} {T : Td} (hC : isCT σ T) (a : Int32) : m6_isPlayer a σ = some (b01 (0 ≤ a ∧ a ≤ nI (bP (sp_told T)) - 1), σ) := by
  unfold m6_isPlayer
  rw [m6_within_eq, bd_some, b01_zg, hC.1.2.2.1.1]
theorem m6_isNote_eq {σ : St} {T : Td} (hC : isCT σ T) (a : Int32) : m6_isNote a σ = some (b01 (0 ≤ a ∧ a ≤ nI (bN (sp_told T)) - 1), σ) := by
  unfold m6_isNote
  rw [m6_within_eq, bd_some, b01_zg, hC.1.2.2.1.2.2.1]
theorem cl_player {σ : St} {T : Td} (hT : okT T) (hC : isCT σ T) (a w : Int32) : CL (m6_player a w σ) σ (an_player T a w) T := by
  have hB := okB_told hT
  have hP := hB.1
  unfold m6_player an_player
  rw [m6_isPlayer_eq hC, bd_some, b01_0]
  by_cases ca : 0 ≤ a ∧ a ≤ nI (bP (sp_told T)) - 1
  · rw [if_pos ca, m6_within_eq, bd_some, b01_0]
    by_cases cw : 0 ≤ w ∧ w ≤ 1
    · rw [if_pos cw, if_pos (And.intro ca cw)]
      obtain ⟨k, hk, rfl⟩ := nI_rngP (by omega) ca
      obtain ⟨p1, p2, -, -⟩ := hC.1.2.2.1.2.1 k hk
      have p1 : σ 6 k = bso (sp_told T) k := p1
      have p2 : σ 7 k = ble (sp_told T) k := p2
      simp (disch := omega) only [sy_ix, ix_nI, gd_nI, p1, p2]
      by_cases c0 : w = 0
      · rw [if_pos c0, if_pos c0]; exact ok_some ⟨rfl, clF.rf, hC⟩
      · rw [if_neg c0, if_neg c0]; exact ok_some ⟨rfl, clF.rf, hC⟩
    · rw [if_neg cw, if_neg (fun q => cw q.2)]
      exact ok_some ⟨rfl, clF.rf, hC⟩
  · rw [if_neg ca, if_neg (fun q => ca q.1)]
    exact ok_some ⟨rfl, clF.rf, hC⟩
theorem cl_note {σ : St} {T : Td} (hT : okT T) (hC : isCT σ T) (a w : Int32) : CL (m6_note a w σ) σ (an_note T a w) T := by
  have hB := okB_told hT
  have hN := hB.2.1
  unfold m6_note an_note
  rw [m6_within_eq, bd_some, b01_0]
  by_cases ca : 0 ≤ a ∧ a ≤ 15
  · rw [if_pos ca, m6_within_eq, bd_some, b01_0]
    by_cases cw : 0 ≤ w ∧ w ≤ 1
    · rw [if_pos cw, if_pos (And.intro ca cw)]
      obtain ⟨k, hk, rfl⟩ := nI_rng (n := 15) (by omega) ca
      rw [hC.1.2.2.1.2.2.1]
      simp (disch := omega) only [sy_ix, ix_nI, gd_nI]
      by_cases cn : k < bN (sp_told T)
      · obtain ⟨p1, p2⟩ := hC.1.2.2.1.2.2.2.1 k cn
        have p1 : σ 10 k = nI (bnb (sp_told T) k) := p1
        have p2 : σ 11 k = nI (bnp (sp_told T) k) := p2
        rw [if_pos (nI_lt cn (by omega)), if_pos cn, p1, p2]
        by_cases c0 : w = 0
        · rw [if_pos c0, if_pos c0]; exact ok_some ⟨rfl, clF.rf, hC⟩
        · rw [if_neg c0, if_neg c0]; exact ok_some ⟨rfl, clF.rf, hC⟩
      · rw [if_neg (nI_nlt (by omega) (by omega)), if_neg cn]
        exact ok_some ⟨rfl, clF.rf, hC⟩
    · rw [if_neg cw, if_neg (fun q => cw q.2)]
      exact ok_some ⟨rfl, clF.rf, hC⟩
  · rw [if_neg ca, if_neg (fun q => ca q.1)]
    exact ok_some ⟨rfl, clF.rf, hC⟩
theorem isMT.tx {σ : St} {T : Td} {k : Nat} (hk : k < 2) (h : isMT σ T) : σ 67 k = nI (tN T k) ∧ ∀ j, j < tN T k → σ 66 (48 * k + j) = nI (tB T k j) := by
  rcases (show k = 0 ∨ k = 1 by omega) with rfl | rfl
  · exact ⟨h.1.1, fun j hj => by rw [show 48 * 0 + j = j by omega]; exact h.1.2.1 j hj⟩
  · exact ⟨h.1.2.2.1, fun j hj => by rw [show 48 * 1 + j = 48 + j by omega]; exact h.1.2.2.2 j hj⟩
/-- with another text: the reference -/
theorem md_text {σ σ1 : St} {T : Td} {k n : Nat} {b : Nat → Nat} (hk : k < 2) (hM : isMT σ T) (hF : ∀ q, q ≠ 66 → q ≠ 67 → σ1 q = σ q) (h1 : σ1 67 k = nI n) (h2 : ∀ j, j < n → σ1 66 (48 * k + j) = nI (b j)) (h3 : ∀ q, q < 2 → q ≠ k → σ1 67 q = σ 67 q) (h4 : ∀ q, q < 2 → q ≠ k → ∀ j, j < tN T q → σ1 66 (48 * q + j) = σ 66 (48 * q + j)) : isMT σ1 (t_text T k n b) := by
  have key : ∀ q, q < 2 → σ1 67 q = nI (tN (t_text T k n b) q) ∧ ∀ j, j < tN (t_text T k n b) q → σ1 66 (48 * q + j) = nI (tB (t_text T k n b) q j) := by
    intro q hq
    rw [t_text_N hk q hq, t_text_B hk q hq]
    by_cases c : q = k
    · subst c
      rw [if_pos rfl, if_pos rfl]; exact ⟨h1, h2⟩
    · rw [if_neg c, if_neg c]
      have := hM.tx hq
      exact ⟨by rw [h3 q hq c]; exact this.1, fun j hj => by rw [h4 q hq c j hj]; exact this.2 j hj⟩
  obtain ⟨g1, g2, g3, g4, g5⟩ := hM
  refine ⟨⟨(key 0 (by omega)).1, fun j hj => by have := (key 0 (by omega)).2 j hj; rwa [show 48 * 0 + j = j by omega] at this, (key 1 (by omega)).1, fun j hj => (key 1 (by omega)).2 j hj⟩, ?_⟩
  have g := And.intro g2 (And.intro g3 (And.intro g4 g5))
  unfold tBag tE tKd tBt tH tHn tHi tF tS tI tL at g ⊢
  rw [t_text_r, hF 61 (by omega) (by omega), hF 70 (by omega) (by omega), hF 79 (by omega) (by omega), hF 62 (by omega) (by omega), hF 63 (by omega) (by omega), hF 64 (by omega) (by omega)]
  exact g
theorem md_type {σ : St} {T : Td} (hT : okT T) (hM : isMT σ T) (a b : Int32) : MD (m7_type a b σ) σ (an_type T a b).1 (an_type T a b).2 := by
  unfold m7_type an_type
  rw [m7_isTwo_eq, bd_some, b01_0]
  by_cases ca : 0 ≤ a ∧ a ≤ 1
  · rw [if_pos ca, show m7_in b.toInt64 0 255 σ = _ from m7_in32 b 0 255 σ, bd_some, b01_0]
    by_cases cb : 0 ≤ b ∧ b ≤ 255
    · rw [if_pos cb, if_pos (And.intro ca cb)]
      obtain ⟨k, hk, rfl⟩ := nI_rng (n := 1) (by omega) ca
      obtain ⟨v, hv, rfl⟩ := nI_rng (n := 255) (by omega) cb
      obtain ⟨x1, x2⟩ := hM.tx (k := k) (by omega)
      have hr := sp_room_47 k
      have hn := (hT.1 k (by omega)).1
      simp (disch := omega) only [sy_ix, ix_nI, gd_nI, x1]
      have j39 : ∀ y : Nat, y = sp_room k → MD (m7_type_J39 (nI k) (nI v) (nI y) (nI (tN T k)) σ) σ (if tN T k = sp_room k then ((-4 : Int32), T) else (nI (tN T k + 1), t_text T k (tN T k + 1) (va_up (tB T k) (tN T k) v))).1 (if tN T k = sp_room k then ((-4 : Int32), T) else (nI (tN T k + 1), t_text T k (tN T k + 1) (va_up (tB T k) (tN T k) v))).2 := by
        intro y hy
        subst hy
        unfold m7_type_J39
        by_cases cr : tN T k = sp_room k
        · rw [if_pos (by rw [cr]), if_pos cr]
          exact ok_some ⟨rfl, mdF.rf, hM⟩
        · rw [if_neg (fun q => cr ((nI_eq (by omega) (by omega)).mp q)), if_neg cr]
          simp (disch := omega) only [sy_ix, ix_nI, gd_nI, x1, nI_48, nI_add, lt_eq, sf_n, nI_1]
          rw [sf_ss]
          refine ok_some ⟨rfl, fun q hq => ?_, ?_⟩
          · simp (disch := omega) only [sf_n]
          · refine md_text (by omega) hM (fun q p1 p2 => ?_) (sf_ss _ _ _ _) (fun j hj => ?_) (fun q hq p => sf_sn p) (fun q hq p j hj => ?_)
            · rw [sf_n p2, sf_n p1]
            · rw [sf_n (by omega), sf_at]
              unfold va_up
              by_cases e : j = tN T k
              · subst e; rw [if_pos ⟨rfl, rfl⟩, if_pos rfl]
              · rw [if_neg (fun z => e (by have := z.2; omega)), if_neg e]; exact x2 j (by omega)
            · have hq47 := (hT.1 q hq).1
              have := sp_room_47 q
              rw [sf_n (by omega), sf_sn (by omega)]
      rcases (show k = 0 ∨ k = 1 by omega) with rfl | rfl
      · rw [if_pos (by rfl)]; exact j39 32 rfl
      · rw [if_neg (by decide)]; exact j39 47 rfl
    · rw [if_neg cb, if_neg (fun q => cb q.2)]
      exact ok_some ⟨rfl, mdF.rf, hM⟩
  · rw [if_neg ca, if_neg (fun q => ca q.1)]
    exact ok_some ⟨rfl, mdF.rf, hM⟩
theorem md_wipe {σ : St} {T : Td} (hT : okT T) (hM : isMT σ T) (a : Int32) : MD (m7_wipe a σ) σ (an_wipe T a).1 (an_wipe T a).2 := by
  unfold m7_wipe an_wipe
  rw [m7_isTwo_eq, bd_some, b01_0]
  by_cases ca : 0 ≤ a ∧ a ≤ 1
  · rw [if_pos ca, if_pos ca]
    obtain ⟨k, hk, rfl⟩ := nI_rng (n := 1) (by omega) ca
    obtain ⟨x1, x2⟩ := hM.tx (k := k) (by omega)
    simp (disch := omega) only [sy_ix, ix_nI, gd_nI, x1, lt_eq]
    refine ok_some ⟨rfl, fun q hq => sf_n (by omega), md_text (by omega) hM (fun q p1 p2 => sf_n p2) (sf_ss _ _ _ _) (fun j hj => by omega) (fun q hq p => sf_sn p) (fun q hq p j hj => by rw [sf_n (by omega)])⟩
  · rw [if_neg ca, if_neg ca]
    exact ok_some ⟨rfl, mdF.rf, hM⟩
theorem md_undo {σ : St} {T : Td} (hT : okT T) (hM : isMT σ T) (a : Int32) : MD (m7_undo a σ) σ (an_undo T a).1 (an_undo T a).2 := by
  unfold m7_undo an_undo
  rw [m7_isTwo_eq, bd_some, b01_0]
  by_cases ca : 0 ≤ a ∧ a ≤ 1
  · rw [if_pos ca, if_pos ca]
    obtain ⟨k, hk, rfl⟩ := nI_rng (n := 1) (by omega) ca
    obtain ⟨x1, x2⟩ := hM.tx (k := k) (by omega)
    have hn := (hT.1 k (by omega)).1
    have hr := sp_room_47 k
    simp (disch := omega) only [sy_ix, ix_nI, gd_nI, x1, lt_eq, nI_e0]
    by_cases c0 : tN T k = 0
    · rw [if_pos c0, if_pos c0]
      exact ok_some ⟨rfl, mdF.rf, hM⟩
    · rw [if_neg c0, if_neg c0, sf_ss, show nI (tN T k) - 1 = nI (tN T k - 1) from pk_sub (b := 1) (by omega)]
      refine ok_some ⟨rfl, fun q hq => sf_n (by omega), md_text (by omega) hM (fun q p1 p2 => sf_n p2) (sf_ss _ _ _ _) (fun j hj => ?_) (fun q hq p => sf_sn p) (fun q hq p j hj => by rw [sf_n (by omega)])⟩
      rw [sf_n (by omega)]; exact x2 j (by omega)
  · rw [if_neg ca, if_neg ca]
    exact ok_some ⟨rfl, mdF.rf, hM⟩
theorem m7_readsText_sp {σ : St} {T : Td} {k : Nat} (hk : k < 2) (hT : okT T) (hM : isMT σ T) : Ok (m7_readsText (nI k) σ) (fun x σ' => x = sp_flt k (tN T k) (tB T k) ∧ mWk σ σ') := by
  unfold m7_readsText
  rcases (show k = 0 ∨ k = 1 by omega) with rfl | rfl
  · rw [if_pos (by rfl)]
    exact ok_bd (isMT.pl hT hM) (fun x σ1 h => ok_some ⟨h.1, h.2.1.wk⟩)
  · rw [if_neg (by decide)]
    exact ok_bd (isMT.nt hT hM) (fun x σ1 h => ok_some ⟨h.1, h.2.1.wk⟩)
theorem md_fault {σ : St} {T : Td} (hT : okT T) (hM : isMT σ T) (a : Int32) : MD (m7_fault a σ) σ (an_fault T a) T := by
  unfold m7_fault an_fault
  rw [m7_isTwo_eq, bd_some, b01_0]
  by_cases ca : 0 ≤ a ∧ a ≤ 1
  · rw [if_pos ca, if_pos ca]
    obtain ⟨k, hk, rfl⟩ := nI_rng (n := 1) (by omega) ca
    simp (disch := omega) only [sy_ix, ix_nI]
    exact ok_bd (m7_readsText_sp (by omega) hT hM) (fun x σ1 h => ok_some ⟨h.1, h.2.md, h.2.MT hM⟩)
  · rw [if_neg ca, if_neg ca]
    exact ok_some ⟨rfl, mdF.rf, hM⟩
theorem md_player {σ : St} {T : Td} (hT : okT T) (hM : isMT σ T) (a w : Int32) : MD (m7_player a w σ) σ (an_player T a w) T := by
  have hB := okB_told hT
  have hP := hB.1
  unfold m7_player an_player
  refine ok_bd (isMT.pl hT hM) (fun x σ1 h => ?_)
  have w1 := h.2.1.wk
  have fin : ∀ y z : Int32, y = z → Ok (some (y, σ1)) (fun y σ' => y = z ∧ mdF σ σ' ∧ isMT σ' T) := fun y z e => ok_some ⟨e, w1.md, w1.MT hM⟩
  have e7 : σ1 61 7 = nI (bP (sp_told T)) := h.2.2.1
  rw [m7_isPlayer_eq, bd_some, b01_0, e7]
  by_cases ca : 0 ≤ a ∧ a ≤ nI (bP (sp_told T)) - 1
  · rw [if_pos ca, m7_isTwo_eq, bd_some, b01_0]
    by_cases cw : 0 ≤ w ∧ w ≤ 1
    · rw [if_pos cw, if_pos (And.intro ca cw)]
      obtain ⟨k, hk, rfl⟩ := nI_rngP (by omega) ca
      obtain ⟨v, hv, rfl⟩ := nI_rng (n := 1) (by omega) cw
      obtain ⟨p1, p2⟩ := h.2.2.2 k hk
      simp (disch := omega) only [nI_2, nI_add, sy_ix, ix_nI, gd_nI]
      rcases (show v = 0 ∨ v = 1 by omega) with rfl | rfl
      · rw [if_pos (by rfl)]
        exact fin _ _ p1
      · rw [if_neg (by decide)]
        exact fin _ _ p2
    · rw [if_neg cw, if_neg (fun q => cw q.2)]
      exact fin _ _ rfl
  · rw [if_neg ca, if_neg (fun q => ca q.1)]
    exact fin _ _ rfl
theorem m7_noteBy_eq {σ : St} {B : Bd} {i v : Nat} (hB : okB B) (h9 : σ 61 9 = nI (bN B)) (hn : ∀ i, i < bN B → σ 69 (2 * i) = nI (bnb B i) ∧ σ 69 (2 * i + 1) = nI (bnp B i)) (hi : i < 16) (hv : v < 2) : m7_noteBy (nI i) (nI v) σ = some (if i < bN B then (if v = 0 then nI (bnb B i) else nI (bnp B i)) else -1, σ) := by
  have hN := hB.2.1
  unfold m7_noteBy
  rw [h9]
  by_cases c : i < bN B
  · obtain ⟨p1, p2⟩ := hn i c
    rw [if_neg (nI_ge c (by omega)), if_pos c]
    simp (disch := omega) only [nI_2, nI_add, sy_ix, ix_nI, gd_nI]
    rcases (show v = 0 ∨ v = 1 by omega) with rfl | rfl
    · rw [if_pos rfl, show 2 * i + 0 = 2 * i by omega, p1]
    · rw [if_neg (by omega), p2]
  · rw [if_pos (nI_le (by omega) (by omega)), if_neg c]
theorem md_note {σ : St} {T : Td} (hT : okT T) (hM : isMT σ T) (a w : Int32) : MD (m7_note a w σ) σ (an_note T a w) T := by
  have hB := okB_told hT
  unfold m7_note an_note
  refine ok_bd (isMT.nt hT hM) (fun x σ1 h => ?_)
  have w1 := h.2.1.wk
  have fin : ∀ y z : Int32, y = z → Ok (some (y, σ1)) (fun y σ' => y = z ∧ mdF σ σ' ∧ isMT σ' T) := fun y z e => ok_some ⟨e, w1.md, w1.MT hM⟩
  rw [show m7_in a.toInt64 0 15 σ1 = _ from m7_in32 a 0 15 σ1, bd_some, b01_0]
  by_cases ca : 0 ≤ a ∧ a ≤ 15
  · rw [if_pos ca, m7_isTwo_eq, bd_some, b01_0]
    by_cases cw : 0 ≤ w ∧ w ≤ 1
    · rw [if_pos cw, if_pos (And.intro ca cw)]
      obtain ⟨k, hk, rfl⟩ := nI_rng (n := 15) (by omega) ca
      obtain ⟨v, hv, rfl⟩ := nI_rng (n := 1) (by omega) cw
      rw [m7_noteBy_eq hB h.2.2.1 h.2.2.2 (by omega) (by omega), bd_some]
      simp (disch := omega) only [sy_ix, ix_nI, nI_e0]
      exact fin _ _ rfl
    · rw [if_neg cw, if_neg (fun q => cw q.2)]
      exact fin _ _ rfl
  · rw [if_neg ca, if_neg (fun q => ca q.1)]
    exact fin _ _ rfl
theorem an_type_ok {T : Td} (hT : okT T) (a b : Int32) : okT (an_type T a b).2 := by
  unfold an_type
  split
  · rename_i c
    obtain ⟨k, hk, rfl⟩ := nI_rng (n := 1) (by omega) c.1
    obtain ⟨v, hv, rfl⟩ := nI_rng (n := 255) (by omega) c.2
    have hn := (hT.1 k (by omega)).1
    have hb := (hT.1 k (by omega)).2
    simp (disch := omega) only [sy_ix, ix_nI]
    split
    · exact hT
    · refine okT_text (by omega) (by omega) (fun j hj => ?_) hT
      unfold va_up
      split
      · omega
      · exact hb j (by omega)
  · exact hT
theorem an_wipe_ok {T : Td} (hT : okT T) (a : Int32) : okT (an_wipe T a).2 := by
  unfold an_wipe
  split
  · rename_i c
    obtain ⟨k, hk, rfl⟩ := nI_rng (n := 1) (by omega) c
    simp (disch := omega) only [sy_ix, ix_nI]
    exact okT_text (by omega) (by omega) (fun j hj => by omega) hT
  · exact hT
theorem an_undo_ok {T : Td} (hT : okT T) (a : Int32) : okT (an_undo T a).2 := by
  unfold an_undo
  split
  · rename_i c
    obtain ⟨k, hk, rfl⟩ := nI_rng (n := 1) (by omega) c
    have hn := (hT.1 k (by omega)).1
    have hb := (hT.1 k (by omega)).2
    simp (disch := omega) only [sy_ix, ix_nI]
    split
    · exact hT
    · exact okT_text (by omega) (by omega) (fun j hj => hb j (by omega)) hT
  · exact hT
