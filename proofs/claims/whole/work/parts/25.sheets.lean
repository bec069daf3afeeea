/-! ===== promises 30 to 34 ===== -/
def t_sx (T : Td) (F : Nat → Int32) (S : Nat → Nat) (I : Nat → Nat → Int32) (L : Int32) : Td := (T.1, T.2.1, T.2.2.1, T.2.2.2.1, T.2.2.2.2.1, F, S, I, L)
def t_lat (T : Td) (x : Int32) : Td := t_sx T (tF T) (tS T) (tI T) x
theorem told_sx (T : Td) (F : Nat → Int32) (S : Nat → Nat) (I : Nat → Nat → Int32) (L : Int32) : sp_told (t_sx T F S I L) = sp_told T := rfl
theorem ct_sx {σ σ1 : St} {T : Td} {F : Nat → Int32} {S : Nat → Nat} {I : Nat → Nat → Int32} {L : Int32} (hC : isCT σ T) (hF : ∀ k, k ≠ 0 → ¬ (53 ≤ k ∧ k ≤ 60) → σ1 k = σ k) (h0 : ∀ j, j ≠ 16 → σ1 0 j = σ 0 j) (hs : ∀ s, s < 4 → isSh σ1 (t_sx T F S I L) s) (hL : σ1 0 16 = L) : isCT σ1 (t_sx T F S I L) := by
  obtain ⟨⟨g1, g2, g3, g4, g5, g6⟩, gc⟩ := hC
  refine ⟨?_, ?_⟩
  · unfold isCS
    rw [told_sx]
    refine ⟨g1.of (hF 1 (by omega) (by omega)) (hF 2 (by omega) (by omega)), g2.of (hF 3 (by omega) (by omega)) (hF 4 (by omega) (by omega)), g3.of (fun k p q => hF k (by omega) (by omega)), ?_, hs, hL⟩
    rw [hF 43 (by omega) (by omega), hF 44 (by omega) (by omega), hF 45 (by omega) (by omega)]; exact g4
  · obtain ⟨c1, c2, c3, c4, c5, c6⟩ := gc
    unfold isCC sp_fill sp_swap sp_hold at *
    rw [told_sx, h0 14 (by omega), h0 15 (by omega), hF 46 (by omega) (by omega), hF 47 (by omega) (by omega), hF 48 (by omega) (by omega), hF 49 (by omega) (by omega), hF 50 (by omega) (by omega)]
    refine ⟨?_, c2, c3, c4, c5, c6⟩
    rcases c1 with q | ⟨q1, q2⟩
    · exact Or.inl q
    · exact Or.inr ⟨q1, q2.of (fun k p q => hF k (by omega) (by omega))⟩
theorem mt_sx {σ σ1 : St} {T : Td} {F : Nat → Int32} {S : Nat → Nat} {I : Nat → Nat → Int32} {L : Int32} (hM : isMT σ T) (hF : ∀ k, k ≠ 61 → ¬ (62 ≤ k ∧ k ≤ 65) → σ1 k = σ k) (h61 : ∀ j, j ≠ 4 → σ1 61 j = σ 61 j) (hs : ∀ s, s < 4 → σ1 62 s = F s ∧ σ1 63 s = nI (S s) ∧ ∀ i, i < S s → σ1 64 (60 * s + i) = I s i) (hL : σ1 61 4 = L) : isMT σ1 (t_sx T F S I L) := by
  obtain ⟨g1, ⟨a1, a2, a3, a4, a5⟩, ⟨b1, b2⟩, g4, g5⟩ := hM
  refine ⟨?_, ⟨?_, ?_, ?_, ?_, ?_⟩, ⟨?_, ?_⟩, hs, hL⟩
  · rw [hF 67 (by omega) (by omega), hF 66 (by omega) (by omega)]; exact g1
  · rw [h61 11 (by omega)]; exact a1
  · rw [h61 12 (by omega)]; exact a2
  · rw [hF 70 (by omega) (by omega)]; exact a3
  · rw [h61 14 (by omega)]; exact a4
  · rw [h61 15 (by omega)]; exact a5
  · rw [h61 28 (by omega)]; exact b1
  · rw [hF 79 (by omega) (by omega)]; exact b2
theorem cl_found {σ : St} {T : Td} (hC : isCT σ T) (x : Int32) : CL (m6_found x σ) σ (-10 - x) (t_lat T x) := by
  unfold m6_found
  rw [lt_eq]
  refine ok_some ⟨rfl, fun q hq => sf_n (by omega), ct_sx hC (fun k p _ => sf_n p) (fun j hj => sf_sn hj) (fun s hs => isSh.of (sf_n (by omega)) (sf_n (by omega)) (hC.1.2.2.2.2.1 s hs)) (sf_ss _ _ _ _)⟩
theorem md_finds {σ : St} {T : Td} (hM : isMT σ T) (x : Int32) : MD (m7_finds x σ) σ (-10 - x) (t_lat T x) := by
  unfold m7_finds
  rw [lt_eq]
  refine ok_some ⟨rfl, fun q hq => sf_n (by omega), mt_sx hM (fun k p _ => sf_n p) (fun j hj => sf_sn hj) (fun s hs => ?_) (sf_ss _ _ _ _)⟩
  rw [sf_n (by omega), sf_n (by omega), sf_n (by omega)]
  exact hM.2.2.2.1 s hs
theorem cl_pass {σ : St} {x : Int32} {T : Td} {r : Option (Int32 × St)} (h : CL r σ x T) : CL (sy_bd r (fun y s => some (y, s))) σ x T := ok_bd h (fun _ _ g => ok_some g)
theorem md_pass {σ : St} {x : Int32} {T : Td} {r : Option (Int32 × St)} (h : MD r σ x T) : MD (sy_bd r (fun y s => some (y, s))) σ x T := ok_bd h (fun _ _ g => ok_some g)
theorem sh_lost {σ : St} {T : Td} {s : Nat} (h : isSh σ T s) : σ (53 + 2 * s) 0 = 0 ↔ 0 ≤ tF T s := by
  rcases h.1 with ⟨a, b⟩ | ⟨f, a, b, c, d⟩
  · rw [a, b]; decide
  · rw [b, c]
    exact ⟨fun _ => nI_pos' (by omega), fun _ => rfl⟩
def sp_cut (f v : Int32) : Int32 := if f = 0 then v.toInt8.toInt32 else if f = 1 then v.toInt16.toInt32 else v
def sp_fnd (T : Td) (s : Nat) (f i : Int32) : Int32 := if 0 ≤ tF T s then (if tF T s = f then (if 0 ≤ i ∧ i ≤ nI (tS T s) - 1 then 0 else 2) else 3) else 1
def an_sheet (T : Td) (s f n : Int32) : Int32 × Td := if (0 ≤ s ∧ s ≤ 3) ∧ (0 ≤ f ∧ f ≤ 2) then (if n ≤ 60 then (if 0 ≤ n then (n, t_sx T (upd (tF T) (sy_ix s) f) (va_up (tS T) (sy_ix s) (sy_ix n)) (va_up (tI T) (sy_ix s) (fun _ => 0)) (tL T)) else (-10 - 5, t_lat T 5)) else (-2, T)) else (-2, T)
def an_lose (T : Td) (s : Int32) : Int32 × Td := if 0 ≤ s ∧ s ≤ 3 then (if 0 ≤ tF T (sy_ix s) then (nI (tS T (sy_ix s)), t_sx T (upd (tF T) (sy_ix s) (-1)) (tS T) (tI T) (tL T)) else (-10 - 1, t_lat T 1)) else (-2, T)
def an_lay (T : Td) (s f i v : Int32) : Int32 × Td := if (0 ≤ s ∧ s ≤ 3) ∧ (0 ≤ f ∧ f ≤ 2) then (if sp_fnd T (sy_ix s) f i = 0 then (1, t_sx T (tF T) (tS T) (va_up (tI T) (sy_ix s) (upd (tI T (sy_ix s)) (sy_ix i) (sp_cut f v))) (tL T)) else (-10 - sp_fnd T (sy_ix s) f i, t_lat T (sp_fnd T (sy_ix s) f i))) else (-2, T)
def an_get (T : Td) (s f i : Int32) : Int32 × Td := if (0 ≤ s ∧ s ≤ 3) ∧ (0 ≤ f ∧ f ≤ 2) then (if sp_fnd T (sy_ix s) f i = 0 then (tI T (sy_ix s) (sy_ix i), T) else (-2147483648, t_lat T (sp_fnd T (sy_ix s) f i))) else (-2147483648, T)
theorem okT_sx {T : Td} {F : Nat → Int32} {S : Nat → Nat} {I : Nat → Nat → Int32} {L : Int32} (h : okT T) (hs : ∀ s, s < 4 → S s ≤ 60 ∧ (F s = -1 ∨ ∃ f : Nat, f < 3 ∧ F s = nI f)) : okT (t_sx T F S I L) := ⟨h.1, h.2.1, h.2.2.1, h.2.2.2.1, h.2.2.2.2.1, h.2.2.2.2.2.1, hs⟩
theorem okT_lat {T : Td} {x : Int32} (h : okT T) : okT (t_lat T x) := okT_sx h h.2.2.2.2.2.2
theorem m4_renew_sp {σ : St} {c : Nat} {f n : Int32} : Ok (m4_renew c f n σ) (fun _ σ' => (∀ k, k ≠ c + 1 → σ' k = sy_sf (sy_sf (sy_sf σ c 0 0) c 1 f) c 2 n k) ∧ ∀ j, j < 60 → σ' (c + 1) j = 0) := by
  unfold m4_renew
  rw [zg_0, lt_eq, lt_eq, lt_eq]
  exact ok_bd (fill_sp (by omega)) (fun _ σ1 g => ok_some g)
theorem cl_sheet {σ : St} {T : Td} (hT : okT T) (hC : isCT σ T) (s f n : Int32) : CL (m6_sheet s f n σ) σ (an_sheet T s f n).1 (an_sheet T s f n).2 := by
  unfold m6_sheet an_sheet
  rw [m6_within_eq, bd_some, b01_0]
  by_cases c1 : 0 ≤ s ∧ s ≤ 3
  · rw [if_pos c1, m6_within_eq, bd_some, b01_0]
    by_cases c2 : 0 ≤ f ∧ f ≤ 2
    · rw [if_pos c2, if_pos (And.intro c1 c2)]
      by_cases c3 : n ≤ 60
      · rw [if_pos c3, if_pos c3]
        by_cases c4 : 0 ≤ n
        · rw [if_pos c4, if_pos c4]
          obtain ⟨s', hs', rfl⟩ := nI_rng (n := 3) (by omega) c1
          obtain ⟨f', hf', rfl⟩ := nI_rng (n := 2) (by omega) c2
          obtain ⟨n', hn', rfl⟩ := nI_rng (n := 60) (by omega) ⟨c4, c3⟩
          simp (disch := omega) only [sy_ix, ix_nI, gd_nI]
          refine ok_bd m4_renew_sp (fun _ σ1 g => ?_)
          have gF : ∀ k, k ≠ 53 + 2 * s' → k ≠ 54 + 2 * s' → σ1 k = σ k := fun k p q => by rw [g.1 k (by omega), sf_n p, sf_n p, sf_n p]
          refine ok_some ⟨rfl, fun q hq => gF q (by omega) (by omega), ct_sx hC (fun k _ p => gF k (by omega) (by omega)) (fun j hj => by rw [gF 0 (by omega) (by omega)]) (fun q hq => ?_) (by rw [gF 0 (by omega) (by omega)]; exact hC.1.2.2.2.2.2)⟩
          by_cases e : q = s'
          · subst e
            refine ⟨Or.inr ⟨f', by omega, pk_us, ?_, ?_⟩, ?_, fun i hi => ?_⟩
            · rw [g.1 _ (by omega), sf_sn (by omega), sf_sn (by omega), sf_ss]
            · rw [g.1 _ (by omega), sf_sn (by omega), sf_ss]
            · rw [g.1 _ (by omega), sf_ss]
              show nI n' = nI (va_up (tS T) q n' q)
              unfold va_up; rw [if_pos rfl]
            · have hi : i < va_up (tS T) q n' q := hi
              unfold va_up at hi
              rw [if_pos rfl] at hi
              show _ = va_up (tI T) q (fun _ => 0) q i
              unfold va_up
              rw [if_pos rfl, show 54 + 2 * q = 53 + 2 * q + 1 by omega]
              exact g.2 i (by omega)
          · have old := hC.1.2.2.2.2.1 q hq
            have e1 : tF (t_sx T (upd (tF T) s' (nI f')) (va_up (tS T) s' n') (va_up (tI T) s' (fun _ => 0)) (tL T)) q = tF T q := pk_un e
            have e2 : tS (t_sx T (upd (tF T) s' (nI f')) (va_up (tS T) s' n') (va_up (tI T) s' (fun _ => 0)) (tL T)) q = tS T q := by show va_up _ _ _ _ = _; unfold va_up; rw [if_neg e]
            have e3 : tI (t_sx T (upd (tF T) s' (nI f')) (va_up (tS T) s' n') (va_up (tI T) s' (fun _ => 0)) (tL T)) q = tI T q := by show va_up _ _ _ _ = _; unfold va_up; rw [if_neg e]
            unfold isSh
            rw [e1, e2, e3, gF _ (by omega) (by omega), gF _ (by omega) (by omega)]
            exact old
        · rw [if_neg c4, if_neg c4]
          exact cl_pass (cl_found hC 5)
      · rw [if_neg c3, if_neg c3]
        exact ok_some ⟨rfl, clF.rf, hC⟩
    · rw [if_neg c2, if_neg (fun q => c2 q.2)]
      exact ok_some ⟨rfl, clF.rf, hC⟩
  · rw [if_neg c1, if_neg (fun q => c1 q.1)]
    exact ok_some ⟨rfl, clF.rf, hC⟩
theorem m7_sheet_loop {σ0 : St} {s n : Nat} {Q : Int32 → St → Prop} (hs : s < 4) (hn : n ≤ 60) (E : Int32 → St → Option (Int32 × St)) (hE : ∀ σ, (∀ k, k ≠ 64 → σ k = σ0 k) → (∀ j, σ 64 j = if 60 * s ≤ j ∧ j < 60 * s + n then 0 else σ0 64 j) → Ok (E (nI n) σ) Q) : ∀ (k i : Nat), i + k = n → ∀ f, k < f → ∀ σ, (∀ k, k ≠ 64 → σ k = σ0 k) → (∀ j, σ 64 j = if 60 * s ≤ j ∧ j < 60 * s + i then 0 else σ0 64 j) → Ok (m7_sheet_L55 E f (nI s) (nI n) (nI i) σ) Q := by
  intro k
  induction k with
  | zero =>
    intro i hi f hf σ hF h
    obtain ⟨f, rfl⟩ : ∃ m, f = m + 1 := ⟨f - 1, by omega⟩
    show Ok (m7_sheet_L55b _ _ _ _ _ σ) Q
    unfold m7_sheet_L55b
    rw [if_pos (nI_le (by omega) (by omega))]
    rw [show i = n by omega] at h
    exact hE σ hF h
  | succ k ih =>
    intro i hi f hf σ hF h
    obtain ⟨f, rfl⟩ : ∃ m, f = m + 1 := ⟨f - 1, by omega⟩
    show Ok (m7_sheet_L55b _ _ _ _ _ σ) Q
    unfold m7_sheet_L55b
    rw [if_neg (nI_ge (by omega) (by omega))]
    simp (disch := omega) only [nI_60, nI_add, nI_1, gd_nI, sy_ix, ix_nI, lt_eq]
    refine ih (i + 1) (by omega) f (by omega) _ (fun q hq => by rw [sf_n hq]; exact hF q hq) (fun j => ?_)
    by_cases e : j = 60 * s + i
    · subst e; rw [sf_ss, if_pos (by omega)]
    · rw [sf_sn e, h j]
      by_cases z : 60 * s ≤ j ∧ j < 60 * s + i
      · rw [if_pos z, if_pos (by omega)]
      · rw [if_neg z, if_neg (by omega)]
theorem md_sheet {σ : St} {T : Td} (hT : okT T) (hM : isMT σ T) (s f n : Int32) : MD (m7_sheet s f n σ) σ (an_sheet T s f n).1 (an_sheet T s f n).2 := by
  unfold m7_sheet an_sheet
  rw [m7_isSheet_eq, bd_some, b01_0]
  by_cases c1 : 0 ≤ s ∧ s ≤ 3
  · rw [if_pos c1, show m7_in f.toInt64 0 2 σ = _ from m7_in32 f 0 2 σ, bd_some, b01_0]
    by_cases c2 : 0 ≤ f ∧ f ≤ 2
    · rw [if_pos c2, if_pos (And.intro c1 c2)]
      by_cases c3 : n ≤ 60
      · rw [if_pos c3, if_pos c3]
        by_cases c4 : 0 ≤ n
        · rw [if_pos c4, if_pos c4]
          obtain ⟨s', hs', rfl⟩ := nI_rng (n := 3) (by omega) c1
          obtain ⟨n', hn', rfl⟩ := nI_rng (n := 60) (by omega) ⟨c4, c3⟩
          simp (disch := omega) only [sy_ix, ix_nI, gd_nI, lt_eq]
          refine m7_sheet_loop (σ0 := sy_sf (sy_sf σ 62 s' f) 63 s' (nI n')) (by omega) hn' _ (fun σ1 hF h => ?_) n' 0 (by omega) sy_FU (by show _ < 1000; omega) _ (fun _ _ => rfl) (fun j => by rw [if_neg (by omega)])
          have gF : ∀ k, k ≠ 62 → k ≠ 63 → k ≠ 64 → σ1 k = σ k := fun k p q z => by rw [hF k z, sf_n q, sf_n p]
          refine ok_some ⟨rfl, fun q hq => gF q (by omega) (by omega) (by omega), mt_sx hM (fun k _ p => gF k (by omega) (by omega) (by omega)) (fun j hj => by rw [gF 61 (by omega) (by omega) (by omega)]) (fun q hq => ?_) (by rw [gF 61 (by omega) (by omega) (by omega)]; exact hM.2.2.2.2)⟩
          obtain ⟨o1, o2, o3⟩ := hM.2.2.2.1 q hq
          have hq60 := (hT.2.2.2.2.2.2 q hq).1
          rw [hF 62 (by omega), hF 63 (by omega)]
          unfold va_up upd
          by_cases e : q = s'
          · subst e
            rw [sf_n (by omega), sf_ss, sf_ss, if_pos rfl, if_pos rfl, if_pos rfl]
            exact ⟨rfl, rfl, fun i hi => by rw [h, if_pos (by omega)]⟩
          · rw [sf_n (by omega), sf_sn e, sf_sn e, sf_n (by omega), if_neg e, if_neg e, if_neg e]
            exact ⟨o1, o2, fun i hi => by rw [h, if_neg (by omega), sf_n (by omega), sf_n (by omega)]; exact o3 i hi⟩
        · rw [if_neg c4, if_neg c4]
          exact md_pass (md_finds hM 5)
      · rw [if_neg c3, if_neg c3]
        exact ok_some ⟨rfl, mdF.rf, hM⟩
    · rw [if_neg c2, if_neg (fun q => c2 q.2)]
      exact ok_some ⟨rfl, mdF.rf, hM⟩
  · rw [if_neg c1, if_neg (fun q => c1 q.1)]
    exact ok_some ⟨rfl, mdF.rf, hM⟩
theorem an_sheet_ok {T : Td} (hT : okT T) (s f n : Int32) : okT (an_sheet T s f n).2 := by
  unfold an_sheet
  split
  · rename_i c
    split
    · rename_i c3
      split
      · rename_i c4
        obtain ⟨s', hs', rfl⟩ := nI_rng (n := 3) (by omega) c.1
        obtain ⟨f', hf', rfl⟩ := nI_rng (n := 2) (by omega) c.2
        obtain ⟨n', hn', rfl⟩ := nI_rng (n := 60) (by omega) ⟨c4, c3⟩
        simp (disch := omega) only [sy_ix, ix_nI]
        refine okT_sx hT (fun q hq => ?_)
        unfold va_up upd
        by_cases e : q = s'
        · rw [if_pos e, if_pos e]; exact ⟨hn', Or.inr ⟨f', by omega, rfl⟩⟩
        · rw [if_neg e, if_neg e]; exact hT.2.2.2.2.2.2 q hq
      · exact okT_lat hT
    · exact hT
  · exact hT
theorem cl_lose {σ : St} {T : Td} (hT : okT T) (hC : isCT σ T) (s : Int32) : CL (m6_lose s σ) σ (an_lose T s).1 (an_lose T s).2 := by
  unfold m6_lose an_lose
  rw [m6_within_eq, bd_some, b01_0]
  by_cases c1 : 0 ≤ s ∧ s ≤ 3
  · rw [if_pos c1, if_pos c1]
    obtain ⟨s', hs', rfl⟩ := nI_rng (n := 3) (by omega) c1
    simp (disch := omega) only [sy_ix, ix_nI, gd_nI]
    have hsh := hC.1.2.2.2.2.1 s' (by omega)
    by_cases c2 : 0 ≤ tF T s'
    · rw [if_pos ((sh_lost hsh).mpr c2), if_pos c2, zg_1, lt_eq, sf_sn (by omega), hsh.2.1]
      refine ok_some ⟨rfl, fun q hq => sf_n (by omega), ct_sx hC (fun k _ p => sf_n (by omega)) (fun j hj => by rw [sf_n (by omega)]) (fun q hq => ?_) (by rw [sf_n (by omega)]; exact hC.1.2.2.2.2.2)⟩
      have old := hC.1.2.2.2.2.1 q hq
      by_cases e : q = s'
      · subst e
        refine ⟨Or.inl ⟨pk_us, sf_ss _ _ _ _⟩, ?_, fun i hi => ?_⟩
        · rw [sf_sn (by omega)]; exact old.2.1
        · rw [sf_n (by omega)]; exact old.2.2 i hi
      · have e1 : tF (t_sx T (upd (tF T) s' (-1)) (tS T) (tI T) (tL T)) q = tF T q := pk_un e
        unfold isSh
        rw [e1, sf_n (by omega), sf_n (by omega)]
        exact old
    · rw [if_neg (fun q => c2 ((sh_lost hsh).mp q)), if_neg c2]
      exact cl_pass (cl_found hC 1)
  · rw [if_neg c1, if_neg c1]
    exact ok_some ⟨rfl, clF.rf, hC⟩
theorem md_lose {σ : St} {T : Td} (hT : okT T) (hM : isMT σ T) (s : Int32) : MD (m7_lose s σ) σ (an_lose T s).1 (an_lose T s).2 := by
  unfold m7_lose an_lose
  rw [m7_isSheet_eq, bd_some, b01_0]
  by_cases c1 : 0 ≤ s ∧ s ≤ 3
  · rw [if_pos c1, if_pos c1]
    obtain ⟨s', hs', rfl⟩ := nI_rng (n := 3) (by omega) c1
    obtain ⟨o1, o2, o3⟩ := hM.2.2.2.1 s' (by omega)
    simp (disch := omega) only [sy_ix, ix_nI, gd_nI, o1]
    by_cases c2 : 0 ≤ tF T s'
    · rw [if_pos c2, if_pos c2, lt_eq, sf_n (by omega), o2]
      refine ok_some ⟨rfl, fun q hq => sf_n (by omega), mt_sx hM (fun k _ p => sf_n (by omega)) (fun j hj => by rw [sf_n (by omega)]) (fun q hq => ?_) (by rw [sf_n (by omega)]; exact hM.2.2.2.2)⟩
      have old := hM.2.2.2.1 q hq
      rw [sf_n (show (63 : Nat) ≠ 62 by omega), sf_n (show (64 : Nat) ≠ 62 by omega)]
      unfold upd
      by_cases e : q = s'
      · subst e; rw [sf_ss, if_pos rfl]; exact ⟨rfl, old.2⟩
      · rw [sf_sn e, if_neg e]; exact old
    · rw [if_neg c2, if_neg c2]
      exact md_pass (md_finds hM 1)
  · rw [if_neg c1, if_neg c1]
    exact ok_some ⟨rfl, mdF.rf, hM⟩
theorem an_lose_ok {T : Td} (hT : okT T) (s : Int32) : okT (an_lose T s).2 := by
  unfold an_lose
  split
  · split
    · refine okT_sx hT (fun q hq => ?_)
      unfold upd
      split
      · exact ⟨(hT.2.2.2.2.2.2 q hq).1, Or.inl rfl⟩
      · exact hT.2.2.2.2.2.2 q hq
    · exact okT_lat hT
  · exact hT
theorem m4_findingAt_eq {σ : St} {T : Td} {s : Nat} (hs : s < 4) (hT : okT T) (h : isSh σ T s) (f i : Int32) : m4_findingAt (53 + 2 * s) f i σ = some (sp_fnd T s f i, σ) := by
  have h60 := (hT.2.2.2.2.2.2 s hs).1
  unfold m4_findingAt sp_fnd
  by_cases c : 0 ≤ tF T s
  · rw [if_pos ((sh_lost h).mpr c), if_pos c]
    rcases h.1 with ⟨a, b⟩ | ⟨g, a, b, d, e⟩
    · rw [a] at c; exact absurd c (by decide)
    · rw [e, b, h.2.1]
      by_cases c2 : f = nI g
      · rw [if_pos c2, if_pos c2.symm]
        by_cases c3 : i < 0
        · rw [if_pos c3, if_neg (fun q => by have q1 := i32_le.mp q.1; have q2 := i32_lt.mp c3; omega)]
        · rw [if_neg c3]
          obtain ⟨j, hj, rfl⟩ := nI_of c3
          simp (disch := omega) only [nI_iffP, nI_ltI]
          by_cases c4 : j < tS T s
          · rw [if_pos c4, if_pos c4]
          · rw [if_neg c4, if_neg c4]
      · rw [if_neg c2, if_neg (fun q => c2 q.symm)]
  · rw [if_neg (fun q => c ((sh_lost h).mp q)), if_neg c]
theorem sp_fnd_cases (T : Td) (s : Nat) (f i : Int32) : sp_fnd T s f i = 0 ∨ sp_fnd T s f i = 1 ∨ sp_fnd T s f i = 2 ∨ sp_fnd T s f i = 3 := by
  unfold sp_fnd
  split
  · split
    · split
      · exact Or.inl rfl
      · exact Or.inr (Or.inr (Or.inl rfl))
    · exact Or.inr (Or.inr (Or.inr rfl))
  · exact Or.inr (Or.inl rfl)
theorem sp_fnd_0 {T : Td} {s : Nat} {f i : Int32} (hT : okT T) (hs : s < 4) (h : sp_fnd T s f i = 0) : tF T s = f ∧ ∃ j : Nat, j < tS T s ∧ i = nI j := by
  have h60 := (hT.2.2.2.2.2.2 s hs).1
  unfold sp_fnd at h
  split at h
  · split at h
    · rename_i c
      split at h
      · rename_i c2
        obtain ⟨j, h1, h2⟩ := nI_rngP (by omega) c2
        exact ⟨c, j, h1, h2⟩
      · exact absurd h (by decide)
    · exact absurd h (by decide)
  · exact absurd h (by decide)
theorem m7_lacks_sp {σ : St} {T : Td} {s : Nat} (hs : s < 4) (hT : okT T) (hM : isMT σ T) (f i : Int32) : Ok (m7_lacks (nI s) f i σ) (fun x σ' => (sp_fnd T s f i = 0 ∧ x = 0 ∧ σ' = σ) ∨ (¬ sp_fnd T s f i = 0 ∧ x = -10 - sp_fnd T s f i ∧ mdF σ σ' ∧ isMT σ' (t_lat T (sp_fnd T s f i)))) := by
  obtain ⟨o1, o2, o3⟩ := hM.2.2.2.1 s hs
  have e : ∀ y : Int32, ¬ y = 0 → sp_fnd T s f i = y → Ok (sy_bd (m7_finds y σ) (fun r s => some (r, s))) (fun x σ' => (sp_fnd T s f i = 0 ∧ x = 0 ∧ σ' = σ) ∨ (¬ sp_fnd T s f i = 0 ∧ x = -10 - sp_fnd T s f i ∧ mdF σ σ' ∧ isMT σ' (t_lat T (sp_fnd T s f i)))) := by
    intro y hy hz
    exact ok_bd (md_finds hM y) (fun x σ1 g => ok_some (Or.inr (by rw [hz]; exact ⟨hy, g.1, g.2.1, g.2.2⟩)))
  unfold m7_lacks
  simp (disch := omega) only [sy_ix, ix_nI, gd_nI, o1, o2]
  by_cases c : 0 ≤ tF T s
  · rw [if_pos c]
    by_cases c2 : tF T s = f
    · rw [if_pos c2, show m7_in i.toInt64 0 (nI (tS T s) - 1).toInt64 σ = _ from m7_in32 i 0 (nI (tS T s) - 1) σ, bd_some, b01_0]
      by_cases c3 : 0 ≤ i ∧ i ≤ nI (tS T s) - 1
      · rw [if_pos c3]
        exact ok_some (Or.inl ⟨by unfold sp_fnd; rw [if_pos c, if_pos c2, if_pos c3], rfl, rfl⟩)
      · rw [if_neg c3]
        exact e 2 (by decide) (by unfold sp_fnd; rw [if_pos c, if_pos c2, if_neg c3])
    · rw [if_neg c2]
      exact e 3 (by decide) (by unfold sp_fnd; rw [if_pos c, if_neg c2])
  · rw [if_neg c]
    exact e 1 (by decide) (by unfold sp_fnd; rw [if_neg c])
theorem m7_cut_eq (f v : Int32) (σ : St) : m7_cut f v σ = some (sp_cut f v, σ) := by
  unfold m7_cut sp_cut
  split
  · rfl
  · split <;> rfl
theorem m4_put_sp {σ : St} {c i : Nat} {v : Int32} (hi : i < 60) : m4_put c (nI i) v σ = some ((), sy_sf σ (c + 1) i (sp_cut (σ c 1) v)) := by
  unfold m4_put sp_cut
  simp (disch := omega) only [sy_ix, ix_nI, gd_nI, lt_eq]
  split
  · rfl
  · split <;> rfl
/-- an item of a sheet: the class -/
theorem ct_item {σ : St} {T : Td} {s i : Nat} {x : Int32} (hC : isCT σ T) (hs : s < 4) : isCT (sy_sf σ (53 + 2 * s + 1) i x) (t_sx T (tF T) (tS T) (va_up (tI T) s (upd (tI T s) i x)) (tL T)) := by
  refine ct_sx hC (fun k _ p => sf_n (by omega)) (fun j hj => by rw [sf_n (by omega)]) (fun q hq => ?_) (by rw [sf_n (by omega)]; exact hC.1.2.2.2.2.2)
  have old := hC.1.2.2.2.2.1 q hq
  refine ⟨?_, ?_, fun j hj => ?_⟩
  · rw [sf_n (by omega)]; exact old.1
  · rw [sf_n (by omega)]; exact old.2.1
  · show _ = va_up (tI T) s (upd (tI T s) i x) q j
    unfold va_up upd
    by_cases e : q = s
    · subst e
      rw [if_pos rfl, show 54 + 2 * q = 53 + 2 * q + 1 by omega, sf_at]
      by_cases z : j = i
      · rw [if_pos ⟨rfl, z⟩, if_pos z]
      · rw [if_neg (fun w => z w.2), if_neg z]
        have := old.2.2 j hj
        rwa [show 54 + 2 * q = 53 + 2 * q + 1 by omega] at this
    · rw [if_neg e, sf_n (by omega)]; exact old.2.2 j hj
theorem mt_item {σ : St} {T : Td} {s i : Nat} {x : Int32} (hT : okT T) (hM : isMT σ T) (hs : s < 4) (hi : i < 60) : isMT (sy_sf σ 64 (60 * s + i) x) (t_sx T (tF T) (tS T) (va_up (tI T) s (upd (tI T s) i x)) (tL T)) := by
  refine mt_sx hM (fun k _ p => sf_n (by omega)) (fun j hj => by rw [sf_n (by omega)]) (fun q hq => ?_) (by rw [sf_n (by omega)]; exact hM.2.2.2.2)
  obtain ⟨o1, o2, o3⟩ := hM.2.2.2.1 q hq
  have h60 := (hT.2.2.2.2.2.2 q hq).1
  refine ⟨by rw [sf_n (by omega)]; exact o1, by rw [sf_n (by omega)]; exact o2, fun j hj => ?_⟩
  unfold va_up upd
  by_cases e : q = s
  · subst e
    rw [if_pos rfl, sf_at]
    by_cases z : j = i
    · rw [if_pos ⟨rfl, by omega⟩, if_pos z]
    · rw [if_neg (fun w => z (by have := w.2; omega)), if_neg z]
      exact o3 j hj
  · rw [if_neg e, sf_sn (by omega)]
    exact o3 j hj
theorem okT_item {T : Td} {I : Nat → Nat → Int32} (hT : okT T) : okT (t_sx T (tF T) (tS T) I (tL T)) := okT_sx hT hT.2.2.2.2.2.2
theorem sh_form {σ : St} {T : Td} {s : Nat} {f : Int32} (hf : 0 ≤ f) (h : isSh σ T s) (e : tF T s = f) : σ (53 + 2 * s) 1 = f := by
  rcases h.1 with ⟨a, b⟩ | ⟨g, a, b, d, z⟩
  · rw [← e, a] at hf; exact absurd hf (by decide)
  · rw [z, ← b, e]
theorem cl_lay {σ : St} {T : Td} (hT : okT T) (hC : isCT σ T) (s f i v : Int32) : CL (m6_lay s f i v σ) σ (an_lay T s f i v).1 (an_lay T s f i v).2 := by
  unfold m6_lay an_lay
  rw [m6_within_eq, bd_some, b01_0]
  by_cases c1 : 0 ≤ s ∧ s ≤ 3
  · rw [if_pos c1, m6_within_eq, bd_some, b01_0]
    by_cases c2 : 0 ≤ f ∧ f ≤ 2
    · rw [if_pos c2, if_pos (And.intro c1 c2)]
      obtain ⟨s', hs', rfl⟩ := nI_rng (n := 3) (by omega) c1
      simp (disch := omega) only [sy_ix, ix_nI, gd_nI]
      have hsh := hC.1.2.2.2.2.1 s' (by omega)
      rw [m4_findingAt_eq (by omega) hT hsh, bd_some]
      by_cases c3 : sp_fnd T s' f i = 0
      · rw [if_pos c3, if_pos c3]
        obtain ⟨e1, j, hj, rfl⟩ := sp_fnd_0 hT (by omega) c3
        have h60 := (hT.2.2.2.2.2.2 s' (by omega)).1
        rw [m4_put_sp (by omega), bd_some, sh_form c2.1 hsh e1, show (nI j).toNatClampNeg = j from nI_clamp (by omega)]
        exact ok_some ⟨rfl, fun q hq => sf_n (by omega), ct_item hC (by omega)⟩
      · rw [if_neg c3, if_neg c3]
        exact cl_pass (cl_found hC _)
    · rw [if_neg c2, if_neg (fun q => c2 q.2)]
      exact ok_some ⟨rfl, clF.rf, hC⟩
  · rw [if_neg c1, if_neg (fun q => c1 q.1)]
    exact ok_some ⟨rfl, clF.rf, hC⟩
theorem fnd_ne {T : Td} {s : Nat} {f i : Int32} (h : ¬ sp_fnd T s f i = 0) : ¬ (-10 - sp_fnd T s f i = 0) := by
  rcases sp_fnd_cases T s f i with q | q | q | q
  · exact absurd q h
  · rw [q]; decide
  · rw [q]; decide
  · rw [q]; decide
theorem md_lay {σ : St} {T : Td} (hT : okT T) (hM : isMT σ T) (s f i v : Int32) : MD (m7_lay s f i v σ) σ (an_lay T s f i v).1 (an_lay T s f i v).2 := by
  unfold m7_lay an_lay
  rw [m7_isSheet_eq, bd_some, b01_0]
  by_cases c1 : 0 ≤ s ∧ s ≤ 3
  · rw [if_pos c1, show m7_in f.toInt64 0 2 σ = _ from m7_in32 f 0 2 σ, bd_some, b01_0]
    by_cases c2 : 0 ≤ f ∧ f ≤ 2
    · rw [if_pos c2, if_pos (And.intro c1 c2)]
      obtain ⟨s', hs', rfl⟩ := nI_rng (n := 3) (by omega) c1
      refine ok_bd (m7_lacks_sp (by omega) hT hM f i) (fun x σ1 g => ?_)
      simp (disch := omega) only [sy_ix, ix_nI]
      rcases g with ⟨g1, rfl, rfl⟩ | ⟨g1, g2, g3, g4⟩
      · rw [if_pos g1, if_pos rfl, m7_cut_eq, bd_some]
        obtain ⟨e1, j, hj, rfl⟩ := sp_fnd_0 hT (by omega) g1
        have h60 := (hT.2.2.2.2.2.2 s' (by omega)).1
        simp (disch := omega) only [sy_ix, ix_nI, gd_nI, nI_60, nI_add, lt_eq]
        exact ok_some ⟨rfl, fun q hq => sf_n (by omega), mt_item hT hM (by omega) (by omega)⟩
      · rw [if_neg g1, g2, if_neg (fnd_ne g1)]
        exact ok_some ⟨rfl, g3, g4⟩
    · rw [if_neg c2, if_neg (fun q => c2 q.2)]
      exact ok_some ⟨rfl, mdF.rf, hM⟩
  · rw [if_neg c1, if_neg (fun q => c1 q.1)]
    exact ok_some ⟨rfl, mdF.rf, hM⟩
theorem an_lay_ok {T : Td} (hT : okT T) (s f i v : Int32) : okT (an_lay T s f i v).2 := by
  unfold an_lay
  split
  · split
    · exact okT_item hT
    · exact okT_lat hT
  · exact hT
theorem cl_get {σ : St} {T : Td} (hT : okT T) (hC : isCT σ T) (s f i : Int32) : CL (m6_get s f i σ) σ (an_get T s f i).1 (an_get T s f i).2 := by
  unfold m6_get an_get
  rw [m6_within_eq, bd_some, b01_0]
  by_cases c1 : 0 ≤ s ∧ s ≤ 3
  · rw [if_pos c1, m6_within_eq, bd_some, b01_0]
    by_cases c2 : 0 ≤ f ∧ f ≤ 2
    · rw [if_pos c2, if_pos (And.intro c1 c2)]
      obtain ⟨s', hs', rfl⟩ := nI_rng (n := 3) (by omega) c1
      simp (disch := omega) only [sy_ix, ix_nI, gd_nI]
      have hsh := hC.1.2.2.2.2.1 s' (by omega)
      rw [m4_findingAt_eq (by omega) hT hsh, bd_some]
      by_cases c3 : sp_fnd T s' f i = 0
      · rw [if_pos c3, if_pos c3]
        obtain ⟨e1, j, hj, rfl⟩ := sp_fnd_0 hT (by omega) c3
        have h60 := (hT.2.2.2.2.2.2 s' (by omega)).1
        simp (disch := omega) only [ix_nI, gd_nI]
        have := hsh.2.2 j hj
        rw [show 54 + 2 * s' = 53 + 2 * s' + 1 by omega] at this
        exact ok_some ⟨this, clF.rf, hC⟩
      · rw [if_neg c3, if_neg c3]
        have := cl_found hC (sp_fnd T s' f i)
        unfold m6_found at this
        rw [lt_eq] at this ⊢
        exact ok_some ⟨rfl, this.2⟩
    · rw [if_neg c2, if_neg (fun q => c2 q.2)]
      exact ok_some ⟨rfl, clF.rf, hC⟩
  · rw [if_neg c1, if_neg (fun q => c1 q.1)]
    exact ok_some ⟨rfl, clF.rf, hC⟩
theorem md_get {σ : St} {T : Td} (hT : okT T) (hM : isMT σ T) (s f i : Int32) : MD (m7_get s f i σ) σ (an_get T s f i).1 (an_get T s f i).2 := by
  unfold m7_get an_get
  rw [m7_isSheet_eq, bd_some, b01_0]
  by_cases c1 : 0 ≤ s ∧ s ≤ 3
  · rw [if_pos c1, show m7_in f.toInt64 0 2 σ = _ from m7_in32 f 0 2 σ, bd_some, b01_0]
    by_cases c2 : 0 ≤ f ∧ f ≤ 2
    · rw [if_pos c2, if_pos (And.intro c1 c2)]
      obtain ⟨s', hs', rfl⟩ := nI_rng (n := 3) (by omega) c1
      refine ok_bd (m7_lacks_sp (by omega) hT hM f i) (fun x σ1 g => ?_)
      simp (disch := omega) only [sy_ix, ix_nI]
      rcases g with ⟨g1, rfl, rfl⟩ | ⟨g1, g2, g3, g4⟩
      · rw [if_pos g1, if_pos rfl]
        obtain ⟨e1, j, hj, rfl⟩ := sp_fnd_0 hT (by omega) g1
        have h60 := (hT.2.2.2.2.2.2 s' (by omega)).1
        simp (disch := omega) only [sy_ix, ix_nI, gd_nI, nI_60, nI_add]
        exact ok_some ⟨(hM.2.2.2.1 s' (by omega)).2.2 j hj, mdF.rf, hM⟩
      · rw [if_neg g1, g2, if_neg (fnd_ne g1)]
        exact ok_some ⟨rfl, g3, g4⟩
    · rw [if_neg c2, if_neg (fun q => c2 q.2)]
      exact ok_some ⟨rfl, mdF.rf, hM⟩
  · rw [if_neg c1, if_neg (fun q => c1 q.1)]
    exact ok_some ⟨rfl, mdF.rf, hM⟩
theorem an_get_ok {T : Td} (hT : okT T) (s f i : Int32) : okT (an_get T s f i).2 := by
  unfold an_get
  split
  · split
    · exact hT
    · exact okT_lat hT
  · exact hT
