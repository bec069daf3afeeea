/-! ===== promise 37: the reference's digest ===== -/
theorem m7_count_B {σ : St} {T : Td} (hT : okT T) (hM : isMT σ T) {k : Nat} (hk : k ≤ 8) : MB (m7_count (nI k) σ) σ (an_count T (nI k)) T := by
  unfold m7_count an_count
  refine ok_bd (m7_find_sp hT hM) (fun _ σ1 g => ?_)
  have f1 := g.1.md
  have m1 := g.1.MT hM
  have b1 := g.2.1
  have r1 := g.2.2
  rw [sw_nI (by show _ < 9; omega) (by omega), swI_nI (by show _ < 9; omega) (by omega)]
  rcases (show k = 0 ∨ k = 1 ∨ k = 2 ∨ k = 3 ∨ k = 4 ∨ k = 5 ∨ k = 6 ∨ k = 7 ∨ k = 8 by omega) with rfl | rfl | rfl | rfl | rfl | rfl | rfl | rfl | rfl
  · exact ok_some ⟨b1.1, f1, m1, b1⟩
  · exact ok_some ⟨b1.2.2.1, f1, m1, b1⟩
  · exact ok_some ⟨m1.1.1, f1, m1, b1⟩
  · exact ok_some ⟨m1.1.2.2.1, f1, m1, b1⟩
  · exact ok_some ⟨b1.2.2.2.2.2.1, f1, m1, b1⟩
  · exact ok_some ⟨b1.2.2.2.2.1, f1, m1, b1⟩
  · refine (?_ : MB (sy_bd (m7_soundNow σ1) (fun r3 σ2 => some (r3, σ2))) σ (rSnd (sp_R T)) T)
    rw [m7_soundNow_eq b1 (okB_told hT) r1, bd_some]
    exact ok_some ⟨rfl, f1, m1, b1⟩
  · exact ok_some ⟨m1.2.2.1.1, f1, m1, b1⟩
  · exact ok_some ⟨m1.2.2.2.2, f1, m1, b1⟩
theorem m7_readsText_B {σ : St} {T : Td} (hT : okT T) (hM : isMT σ T) (hB : isM σ (sp_told T)) {t : Nat} (ht : t < 2) : MB (m7_readsText (nI t) σ) σ (an_fault T (nI t)) T := by
  unfold m7_readsText an_fault
  rw [if_pos (show 0 ≤ nI t ∧ nI t ≤ 1 from nI_inR (n := 1) (by omega) (by omega)), show sy_ix (nI t) = t from nI_clamp (by omega)]
  rcases (show t = 0 ∨ t = 1 by omega) with rfl | rfl
  · rw [if_pos (by rfl)]
    refine ok_bd (isMT.pl hT hM) (fun y σ1 g => ?_)
    obtain ⟨g0, g1, g2, g3⟩ := g
    have t1 := g1.wk.MT hM
    refine ok_some ⟨g0, g1.wk.md, t1, g2, fun k hk => ⟨(g3 k hk).1, (g3 k hk).2, ?_⟩, ?_, fun i hi => ?_, t1.2.1.1, t1.2.1.2.1, t1.2.1.2.2.1, t1.2.1.2.2.2.1, t1.2.1.2.2.2.2⟩
    · rw [g1.1 78 (by omega) (by omega)]; exact (hB.2.1 k hk).2.2
    · rw [g1.2 9 (by omega)]; exact hB.2.2.1
    · rw [g1.1 69 (by omega) (by omega)]; exact hB.2.2.2.1 i hi
  · rw [if_neg (by decide)]
    refine ok_bd (isMT.nt hT hM) (fun y σ1 g => ?_)
    obtain ⟨g0, g1, g2, g3⟩ := g
    have t1 := g1.wk.MT hM
    refine ok_some ⟨g0, g1.wk.md, t1, ?_, fun k hk => ?_, g2, g3, t1.2.1.1, t1.2.1.2.1, t1.2.1.2.2.1, t1.2.1.2.2.2.1, t1.2.1.2.2.2.2⟩
    · rw [g1.2 7 (by omega)]; exact hB.1
    · rw [g1.1 68 (by omega) (by omega), g1.1 78 (by omega) (by omega)]; exact hB.2.1 k hk
theorem m7_dg_c {σ0 : St} {T : Td} {y : Int64} {E : Int64 → St → Option (Int64 × St)} (hT : okT T) (hE : ∀ σ, mdF σ0 σ → isMT σ T → isM σ (sp_told T) → MB (E (dg_c T 8) σ) σ0 y T) : ∀ (k i : Nat), i + k = 8 → ∀ n, k < n → ∀ σ, mdF σ0 σ → isMT σ T → (0 < i → isM σ (sp_told T)) → MB (m7_digest_L6 E n (dg_c T i) (nI i) σ) σ0 y T := by
  intro k
  induction k with
  | zero =>
    intro i hi n hn σ hF hM hB
    obtain ⟨n, rfl⟩ : ∃ m, n = m + 1 := ⟨n - 1, by omega⟩
    show MB (m7_digest_L6b _ _ _ _ σ) _ _ _
    unfold m7_digest_L6b
    have b1 := hB (by omega)
    rw [show i = 8 by omega, if_pos (by decide)]
    exact hE σ hF hM b1
  | succ k ih =>
    intro i hi n hn σ hF hM hB
    obtain ⟨n, rfl⟩ : ∃ m, n = m + 1 := ⟨n - 1, by omega⟩
    show MB (m7_digest_L6b _ _ _ _ σ) _ _ _
    unfold m7_digest_L6b
    rw [if_neg (show ¬ (8 : Int32) ≤ nI i from nI_ge (b := 8) (by omega) (by omega)), nI_1]
    exact mgI hF (m7_count_B hT hM (by omega)) (fun σ1 f1 m1 b1 => ih (i + 1) (by omega) n (by omega) σ1 f1 m1 (fun _ => b1))
theorem m7_dg_f {σ0 σ : St} {T : Td} {y h : Int64} {E : Int64 → St → Option (Int64 × St)} (hT : okT T) (hF : mdF σ0 σ) (hM : isMT σ T) (hB : isM σ (sp_told T)) (hE : ∀ σ, mdF σ0 σ → isMT σ T → isM σ (sp_told T) → MB (E (mxI (mxI h (an_fault T 0)) (an_fault T 1)) σ) σ0 y T) : MB (m7_digest_L33 E sy_FU h 0 σ) σ0 y T := by
  show MB (m7_digest_L33b (m7_digest_L33 E 999) E _ _ σ) _ _ _
  unfold m7_digest_L33b
  rw [if_neg (by decide)]
  refine mgI hF (show MB (m7_readsText 0 σ) σ (an_fault T 0) T from m7_readsText_B (t := 0) hT hM hB (by omega)) (fun σ1 f1 m1 b1 => ?_)
  show MB (m7_digest_L33b (m7_digest_L33 E 998) E _ _ σ1) _ _ _
  unfold m7_digest_L33b
  rw [if_neg (by decide)]
  refine mgI f1 (show MB (m7_readsText (0 + 1) σ1) σ1 (an_fault T 1) T from m7_readsText_B (t := 1) hT m1 b1 (by omega)) (fun σ2 f2 m2 b2 => ?_)
  show MB (m7_digest_L33b (m7_digest_L33 E 997) E _ _ σ2) _ _ _
  unfold m7_digest_L33b
  rw [if_pos (by decide)]
  exact hE σ2 f2 m2 b2
theorem m7_dg_at {σ : St} {T : Td} {b : Nat} {h : Int64} {E : Int64 → Int32 → St → Option (Int64 × St)} (hR : mRun σ (sp_told T)) (hb : b < 24) : m7_digest_L72 E sy_FU h (nI b) 0 σ = E (mxI (mxI (mxI h (an_at T (nI b) 0)) (an_at T (nI b) 1)) (an_at T (nI b) 2)) (nI b) σ := by
  show m7_digest_L72b (m7_digest_L72 E 999) E _ _ _ σ = _
  unfold m7_digest_L72b
  rw [if_neg (by decide), m7_atBy_eq hR hb (by decide), bd_some, lt_eq]
  show m7_digest_L72b (m7_digest_L72 E 998) E _ _ 1 σ = _
  unfold m7_digest_L72b
  rw [if_neg (by decide), m7_atBy_eq hR hb (by decide), bd_some, lt_eq]
  show m7_digest_L72b (m7_digest_L72 E 997) E _ _ 2 σ = _
  unfold m7_digest_L72b
  rw [if_neg (by decide), m7_atBy_eq hR hb (by decide), bd_some, lt_eq]
  show m7_digest_L72b (m7_digest_L72 E 996) E _ _ 3 σ = _
  unfold m7_digest_L72b
  rw [if_pos (by decide)]
theorem m7_dg_b {σ : St} {T : Td} {h : Int64} {E : Int64 → St → Option (Int64 × St)} (hR : mRun σ (sp_told T)) : ∀ (k b : Nat), b + k = 24 → ∀ n, k < n → m7_digest_L63 E n (dg_b T h b) (nI b) σ = E (dg_b T h 24) σ := by
  intro k
  induction k with
  | zero =>
    intro b hb n hn
    obtain ⟨n, rfl⟩ : ∃ m, n = m + 1 := ⟨n - 1, by omega⟩
    show m7_digest_L63b _ _ _ _ σ = _
    unfold m7_digest_L63b
    rw [show b = 24 by omega, if_pos (by decide)]
  | succ k ih =>
    intro b hb n hn
    obtain ⟨n, rfl⟩ : ∃ m, n = m + 1 := ⟨n - 1, by omega⟩
    show m7_digest_L63b _ _ _ _ σ = _
    unfold m7_digest_L63b
    rw [if_neg (show ¬ (24 : Int32) ≤ nI b from nI_ge (b := 24) (by omega) (by omega)), m7_dg_at hR (by omega), nI_1]
    exact ih (b + 1) (by omega) n (by omega)
theorem m7_dg_n {σ : St} {T : Td} {h : Int64} {E : Int64 → St → Option (Int64 × St)} (hT : okT T) (hB : isM σ (sp_told T)) : ∀ (k i : Nat), i + k = 16 → ∀ n, k < n → m7_digest_L107 E n (dg_n T h i) (nI i) σ = E (dg_n T h 16) σ := by
  intro k
  induction k with
  | zero =>
    intro i hi n hn
    obtain ⟨n, rfl⟩ : ∃ m, n = m + 1 := ⟨n - 1, by omega⟩
    show m7_digest_L107b _ _ _ _ σ = _
    unfold m7_digest_L107b
    rw [show i = 16 by omega, if_pos (by decide)]
  | succ k ih =>
    intro i hi n hn
    obtain ⟨n, rfl⟩ : ∃ m, n = m + 1 := ⟨n - 1, by omega⟩
    show m7_digest_L107b _ _ _ _ σ = _
    unfold m7_digest_L107b
    rw [if_neg (show ¬ (16 : Int32) ≤ nI i from nI_ge (b := 16) (by omega) (by omega)), show m7_noteBy (nI i) 0 σ = some (an_note T (nI i) 0, σ) from m7_noteBy_an (w := 0) hT hB (by omega) (by omega), bd_some, lt_eq, show m7_noteBy (nI i) 1 σ = some (an_note T (nI i) 1, σ) from m7_noteBy_an (w := 1) hT hB (by omega) (by omega), bd_some, lt_eq, nI_1]
    exact ih (i + 1) (by omega) n (by omega)
theorem an_chance_5 {T : Td} {i : Nat} {x : Int32} (hT : okT T) (hi : i < bN (sp_told T)) (hx : 0 ≤ x ∧ x ≤ 1) : sp_ch (sp_told T) 5 i x = an_chance T 5 (nI i) x := by
  have hN := (okB_told hT).2.1
  unfold an_chance
  rw [if_pos (show (0 ≤ (5 : Int32) ∧ (5 : Int32) ≤ 16) ∧ (0 ≤ nI i ∧ nI i ≤ nI (bN (sp_told T)) - 1) ∧ (0 ≤ x ∧ x ≤ 1) from ⟨by decide, nI_inP (by omega) hi, hx⟩), show sy_ix (nI i) = i from nI_clamp (by omega), show sy_ix (5 : Int32) = 5 from rfl]
theorem m7_tellsNote_B {σ : St} {T : Td} {h : Int64} {i : Nat} (hT : okT T) (hM : isMT σ T) (hB : isM σ (sp_told T)) (hi : i < bN (sp_told T)) : MB (m7_tellsNote h (nI i) σ) σ (mxL (mxL (mxI h (an_heard T (nI i))) (an_chance T 5 (nI i) 0)) (an_chance T 5 (nI i) 1)) T := by
  have hN := (okB_told hT).2.1
  have ea : an_heard T (nI i) = rSt (sp_R T) i := by
    unfold an_heard
    rw [if_pos (nI_inP (by omega) hi), show sy_ix (nI i) = i from nI_clamp (by omega)]
  unfold m7_tellsNote
  refine ok_bd (m7_lives_sp hB (okB_told hT)) (fun _ σ1 g1 => ?_)
  have b1 := g1.1.isM hB
  have e74 : σ1 74 i = an_heard T (nI i) := by
    rw [ea]
    exact g1.2.2.2.2.2.2.1 i hi (Or.inl ((okB_told hT).2.2.2.2.2.2.1 i hi).1)
  rw [gd_nI (by omega) (by omega), lt_eq, show sy_ix (nI i) = i from nI_clamp (by omega), e74]
  have q1 : Ok (m7_chanceOf 5 (nI i) 0 σ1) (fun y σ' => y = an_chance T 5 (nI i) 0 ∧ mFr σ1 σ') := by
    rw [← an_chance_5 hT hi (by decide)]
    exact m7_chanceOf_sp (c := 5) (okB_told hT) rfl b1 (by omega) hi
  refine ok_bd q1 (fun y σ2 g2 => ?_)
  obtain ⟨rfl, g2⟩ := g2
  have b2 := g2.isM b1
  rw [lt_eq]
  have q2 : Ok (m7_chanceOf 5 (nI i) 1 σ2) (fun y σ' => y = an_chance T 5 (nI i) 1 ∧ mFr σ2 σ') := by
    rw [← an_chance_5 hT hi (by decide)]
    exact m7_chanceOf_sp (c := 5) (okB_told hT) rfl b2 (by omega) hi
  refine ok_bd q2 (fun y σ3 g3 => ?_)
  obtain ⟨rfl, g3⟩ := g3
  have w := (g1.1.tr g2).tr g3
  exact ok_some ⟨rfl, w.wk.md, w.wk.MT hM, g3.isM b2⟩
theorem m7_dg_h {σ0 : St} {T : Td} {y h : Int64} {N : Nat} {E : Int64 → St → Option (Int64 × St)} (hT : okT T) (hN : N ≤ 16) (eN : bN (sp_told T) = N) (hE : ∀ σ, mdF σ0 σ → isMT σ T → isM σ (sp_told T) → MB (E (dg_h T h N) σ) σ0 y T) : ∀ (k i : Nat), i + k = N → ∀ n, k < n → ∀ σ, mdF σ0 σ → isMT σ T → isM σ (sp_told T) → MB (m7_digest_L149 E n (dg_h T h i) (nI i) σ) σ0 y T := by
  intro k
  induction k with
  | zero =>
    intro i hi n hn σ hF hM hB
    obtain ⟨n, rfl⟩ : ∃ m, n = m + 1 := ⟨n - 1, by omega⟩
    show MB (m7_digest_L149b _ _ _ _ σ) _ _ _
    unfold m7_digest_L149b
    rw [hB.2.2.1, eN, show i = N by omega, if_pos (nI_le (by omega) (by omega))]
    exact hE σ hF hM hB
  | succ k ih =>
    intro i hi n hn σ hF hM hB
    obtain ⟨n, rfl⟩ : ∃ m, n = m + 1 := ⟨n - 1, by omega⟩
    show MB (m7_digest_L149b _ _ _ _ σ) _ _ _
    unfold m7_digest_L149b
    rw [hB.2.2.1, eN, if_neg (nI_ge (by omega) (by omega)), nI_1]
    refine ok_bd (m7_tellsNote_B hT hM hB (show i < bN (sp_told T) by omega)) (fun x σ1 g => ?_)
    obtain ⟨rfl, f1, m1, b1⟩ := g
    exact ih (i + 1) (by omega) n (by omega) σ1 (hF.tr f1) m1 b1
theorem m7_dg_tk {σ : St} {T : Td} {k : Nat} {h : Int64} {E : Int32 → Int64 → St → Option (Int64 × St)} (hT : okT T) (hR : mRun σ (sp_told T)) (hk : k < bP (sp_told T)) : m7_tellsPlayer_L44 E sy_FU (nI k) h 0 σ = E (nI k) (mxI (mxI (mxI h (an_takes T (nI k) 0)) (an_takes T (nI k) 1)) (an_takes T (nI k) 2)) σ := by
  show m7_tellsPlayer_L44b (m7_tellsPlayer_L44 E 999) E _ _ _ σ = _
  unfold m7_tellsPlayer_L44b
  rw [if_neg (by decide), m7_takesBy_eq hT hR hk (by decide), bd_some, lt_eq]
  show m7_tellsPlayer_L44b (m7_tellsPlayer_L44 E 998) E _ _ 1 σ = _
  unfold m7_tellsPlayer_L44b
  rw [if_neg (by decide), m7_takesBy_eq hT hR hk (by decide), bd_some, lt_eq]
  show m7_tellsPlayer_L44b (m7_tellsPlayer_L44 E 997) E _ _ 2 σ = _
  unfold m7_tellsPlayer_L44b
  rw [if_neg (by decide), m7_takesBy_eq hT hR hk (by decide), bd_some, lt_eq]
  show m7_tellsPlayer_L44b (m7_tellsPlayer_L44 E 996) E _ _ 3 σ = _
  unfold m7_tellsPlayer_L44b
  rw [if_pos (by decide)]
theorem an_pl {T : Td} {k : Nat} (hT : okT T) (hk : k < bP (sp_told T)) : an_player T (nI k) 0 = bso (sp_told T) k ∧ an_player T (nI k) 1 = ble (sp_told T) k ∧ an_was T (nI k) 0 = sp_bits (fun v => sp_fit T (sp_setLe (sp_told T) k (nI v))) 4 ∧ an_was T (nI k) 1 = sp_bits (fun v => sp_fit T (sp_setSo (sp_told T) k (nI v))) 3 ∧ an_ask T (nI k) = sp_ask T (sp_told T) k := by
  have hP := (okB_told hT).1
  have hr := nI_inP (j := k) (n := bP (sp_told T)) (by omega) hk
  have hx : sy_ix (nI k) = k := nI_clamp (by omega)
  unfold an_player an_was an_ask
  rw [if_pos (And.intro hr (show (0 : Int32) ≤ 0 ∧ (0 : Int32) ≤ 1 by decide)), if_pos (And.intro hr (show (0 : Int32) ≤ 1 ∧ (1 : Int32) ≤ 1 by decide)), if_pos (And.intro hr (show (0 : Int32) ≤ 0 ∧ (0 : Int32) ≤ 1 by decide)), if_pos (And.intro hr (show (0 : Int32) ≤ 1 ∧ (1 : Int32) ≤ 1 by decide)), if_pos hr, hx, if_pos rfl, if_neg (by decide), show sy_ix (0 : Int32) = 0 from rfl, show sy_ix (1 : Int32) = 1 from rfl]
  unfold sp_was
  rw [if_pos rfl, if_neg (by decide)]
  exact ⟨rfl, rfl, rfl, rfl, rfl⟩
theorem m7_tellsPlayer_B {σ : St} {T : Td} {h : Int64} {k : Nat} (hT : okT T) (hM : isMT σ T) (hB : isM σ (sp_told T)) (hk : k < bP (sp_told T)) : MB (m7_tellsPlayer h (nI k) σ) σ (dg_q T h (nI k)) T := by
  have hP := (okB_told hT).1
  obtain ⟨p1, p2, p3, p4, p5⟩ := an_pl hT hk
  unfold m7_tellsPlayer
  refine ok_bd (m7_lives_sp hB (okB_told hT)) (fun _ σ1 g1 => ?_)
  have b1 := g1.1.isM hB
  have m1 := g1.1.wk.MT hM
  rw [nI_2, gd_nI (by omega) (by omega), lt_eq, nI_1, gd_nI (by omega) (by omega), lt_eq, show sy_ix (nI (2 * k)) = 2 * k from nI_clamp (by omega), show sy_ix (nI (2 * k + 1)) = 2 * k + 1 from nI_clamp (by omega), (b1.2.1 k hk).1, (b1.2.1 k hk).2.1, m7_dg_tk hT g1.2 hk]
  refine ok_bd (m7_wasteOf_sp2 hT m1 (okB_told hT) b1 hk) (fun y σ2 g2 => ?_)
  obtain ⟨rfl, w2, -, b2⟩ := g2
  have m2 := w2.wk.MT m1
  rw [lt_eq]
  refine ok_bd (m7_sortOf_sp2 hT m2 (okB_told hT) b2 hk) (fun y σ3 g3 => ?_)
  obtain ⟨rfl, w3, b3⟩ := g3
  have m3 := w3.wk.MT m2
  rw [lt_eq]
  refine ok_bd (m7_askOf_sp hT m3 (okB_told hT) b3 hk) (fun y σ4 g4 => ?_)
  obtain ⟨rfl, w4, b4⟩ := g4
  have m4 := w4.wk.MT m3
  refine ok_some ⟨?_, ((g1.1.wk.md.tr w2.wk.md).tr w3.wk.md).tr w4.wk.md, m4, b4⟩
  unfold dg_q
  rw [p1, p2, p3, p4, p5]
theorem m7_dg_p {σ0 : St} {T : Td} {y h : Int64} {P : Nat} {E : Int64 → St → Option (Int64 × St)} (hT : okT T) (hP : P ≤ 11) (eP : bP (sp_told T) = P) (hE : ∀ σ, mdF σ0 σ → isMT σ T → isM σ (sp_told T) → MB (E (dg_p T h P) σ) σ0 y T) : ∀ (k i : Nat), i + k = P → ∀ n, k < n → ∀ σ, mdF σ0 σ → isMT σ T → isM σ (sp_told T) → MB (m7_digest_L172 E n (dg_p T h i) (nI i) σ) σ0 y T := by
  intro k
  induction k with
  | zero =>
    intro i hi n hn σ hF hM hB
    obtain ⟨n, rfl⟩ : ∃ m, n = m + 1 := ⟨n - 1, by omega⟩
    show MB (m7_digest_L172b _ _ _ _ σ) _ _ _
    unfold m7_digest_L172b
    rw [hB.1, eP, show i = P by omega, if_pos (nI_le (by omega) (by omega))]
    exact hE σ hF hM hB
  | succ k ih =>
    intro i hi n hn σ hF hM hB
    obtain ⟨n, rfl⟩ : ∃ m, n = m + 1 := ⟨n - 1, by omega⟩
    show MB (m7_digest_L172b _ _ _ _ σ) _ _ _
    unfold m7_digest_L172b
    rw [hB.1, eP, if_neg (nI_ge (by omega) (by omega)), nI_1]
    refine ok_bd (m7_tellsPlayer_B hT hM hB (show i < bP (sp_told T) by omega)) (fun x σ1 g => ?_)
    obtain ⟨rfl, f1, m1, b1⟩ := g
    exact ih (i + 1) (by omega) n (by omega) σ1 (hF.tr f1) m1 b1
theorem m7_dg_s {σ : St} {T : Td} {h : Int64} {E : Int64 → St → Option (Int64 × St)} (hT : okT T) (hB : isM σ (sp_told T)) (hR : mRun σ (sp_told T)) : m7_digest_L199 E sy_FU h 0 σ = E (mxI (mxI (mxI h (an_sum T 0)) (an_sum T 1)) (an_sum T 2)) σ := by
  show m7_digest_L199b (m7_digest_L199 E 999) E _ _ σ = _
  unfold m7_digest_L199b
  rw [if_neg (by decide), m7_sumBy_an hT hB hR (by decide), bd_some, lt_eq]
  show m7_digest_L199b (m7_digest_L199 E 998) E _ 1 σ = _
  unfold m7_digest_L199b
  rw [if_neg (by decide), m7_sumBy_an hT hB hR (by decide), bd_some, lt_eq]
  show m7_digest_L199b (m7_digest_L199 E 997) E _ 2 σ = _
  unfold m7_digest_L199b
  rw [if_neg (by decide), m7_sumBy_an hT hB hR (by decide), bd_some, lt_eq]
  show m7_digest_L199b (m7_digest_L199 E 996) E _ 3 σ = _
  unfold m7_digest_L199b
  rw [if_pos (by decide)]
theorem m7_dg_w {σ0 σ : St} {T : Td} {y h : Int64} {E : Int64 → St → Option (Int64 × St)} (hT : okT T) (hF : mdF σ0 σ) (hM : isMT σ T) (hB : isM σ (sp_told T)) (hE : ∀ σ, mdF σ0 σ → isMT σ T → isM σ (sp_told T) → MB (E (mxI (mxI (mxI h (an_swap T 0)) (an_swap T 1)) (an_swap T 2)) σ) σ0 y T) : MB (m7_digest_L287 E sy_FU h 0 σ) σ0 y T := by
  show MB (m7_digest_L287b (m7_digest_L287 E 999) E _ _ σ) _ _ _
  unfold m7_digest_L287b
  rw [if_neg (by decide)]
  refine mgI hF (m7_swapBy_sp hT hM hB (by decide)) (fun σ1 f1 m1 b1 => ?_)
  show MB (m7_digest_L287b (m7_digest_L287 E 998) E _ 1 σ1) _ _ _
  unfold m7_digest_L287b
  rw [if_neg (by decide)]
  refine mgI f1 (m7_swapBy_sp hT m1 b1 (by decide)) (fun σ2 f2 m2 b2 => ?_)
  show MB (m7_digest_L287b (m7_digest_L287 E 997) E _ 2 σ2) _ _ _
  unfold m7_digest_L287b
  rw [if_neg (by decide)]
  refine mgI f2 (m7_swapBy_sp hT m2 b2 (by decide)) (fun σ3 f3 m3 b3 => ?_)
  show MB (m7_digest_L287b (m7_digest_L287 E 996) E _ 3 σ3) _ _ _
  unfold m7_digest_L287b
  rw [if_pos (by decide)]
  exact hE σ3 f3 m3 b3
theorem m7_years_B {σ : St} {T : Td} {x : Int32} (hT : okT T) (hM : isMT σ T) (hB : isM σ (sp_told T)) (hx : 0 ≤ x ∧ x ≤ 1) : MB (m7_yearsOf 7 12 x σ) σ (an_years T 7 12 x) T := by
  unfold an_years
  rw [if_pos (And.intro (show (0 : Int32) ≤ 12 ∧ (12 : Int32) ≤ 16 by decide) hx), show sy_ix (12 : Int32) = 12 from rfl]
  exact ok_mono (m7_yearsOf_sp (n := 12) hT hM hB (by omega)) (fun y σ1 g => ⟨g.1, g.2.1.md, g.2.1.MT hM, g.2.2⟩)
theorem md_digest {σ : St} {T : Td} (hT : okT T) (hM : isMT σ T) : MB (m7_digest σ) σ (an_digest T) T := by
  have ho := okB_told hT
  have hN := ho.2.1
  have hP := ho.1
  unfold m7_digest
  refine m7_dg_c hT (fun σ1 f1 m1 b1 => ?_) 8 0 (by omega) sy_FU (by show _ < 1000; omega) σ mdF.rf hM (fun q => by omega)
  refine m7_dg_f hT f1 m1 b1 (fun σ2 f2 m2 b2 => ?_)
  refine ok_bd (m7_lives_sp b2 ho) (fun _ σ3 g3 => ?_)
  have f3 := f2.tr g3.1.wk.md
  have m3 := g3.1.wk.MT m2
  have b3 := g3.1.isM b2
  refine (?_ : MB (m7_digest_L63 _ sy_FU (dg_b T (dg_1 T) 0) (nI 0) σ3) σ (an_digest T) T)
  rw [m7_dg_b g3.2 24 0 (by omega) sy_FU (by show _ < 1000; omega)]
  refine (?_ : MB (m7_digest_L107 _ sy_FU (dg_n T (dg_b T (dg_1 T) 24) 0) (nI 0) σ3) σ (an_digest T) T)
  rw [m7_dg_n hT b3 16 0 (by omega) sy_FU (by show _ < 1000; omega)]
  refine m7_dg_h (h := dg_n T (dg_b T (dg_1 T) 24) 16) hT hN rfl (fun σ4 f4 m4 b4 => ?_) _ 0 (Nat.zero_add _) sy_FU (by show _ < 1000; omega) σ3 f3 m3 b3
  refine m7_dg_p (h := dg_2 T) hT hP rfl (fun σ5 f5 m5 b5 => ?_) _ 0 (Nat.zero_add _) sy_FU (by show _ < 1000; omega) σ4 f4 m4 b4
  refine ok_bd (m7_lives_sp b5 ho) (fun _ σ6 g6 => ?_)
  have f6 := f5.tr g6.1.wk.md
  have m6 := g6.1.wk.MT m5
  have b6 := g6.1.isM b5
  rw [m7_dg_s hT b6 g6.2]
  refine mgE (x := an_flat T) (m7_flatNow_eq g6.2) ?_
  refine mgE (x := an_silent T) (m7_silentNow_eq b6 ho g6.2) ?_
  refine mgE (x := an_greedy T) (m7_greedyNow_eq b6 ho g6.2) ?_
  refine mgI f6 (mB_Fr m6 b6 (m7_fillBy_sp hT b6 (by decide))) (fun σ7 f7 m7 b7 => ?_)
  refine mgI f7 (mB_Fr m7 b7 (m7_fillBy_sp hT b7 (by decide))) (fun σ8 f8 m8 b8 => ?_)
  refine m7_dg_w hT f8 m8 b8 (fun σ9 f9 m9 b9 => ?_)
  refine mgI f9 (mB_Fr m9 b9 (m7_holdBy_sp hT m9 b9 (by decide))) (fun σ10 f10 m10 b10 => ?_)
  refine mgI f10 (mB_Fr m10 b10 (m7_holdBy_sp hT m10 b10 (by decide))) (fun σ11 f11 m11 b11 => ?_)
  refine mgI f11 (mB_Fr m11 b11 (m7_spareBy_sp hT b11 (by decide))) (fun σ12 f12 m12 b12 => ?_)
  refine mgI f12 (mB_Fr m12 b12 (m7_spareBy_sp hT b12 (by decide))) (fun σ13 f13 m13 b13 => ?_)
  refine mgI f13 (mB_Fr m13 b13 (m7_neverNow_sp hT m13 b13)) (fun σ14 f14 m14 b14 => ?_)
  refine mgI f14 (m7_years_B hT m14 b14 (by decide)) (fun σ15 f15 m15 b15 => ?_)
  refine ok_bd (m7_years_B hT m15 b15 (by decide)) (fun y σ16 g => ?_)
  obtain ⟨rfl, f16, m16, b16⟩ := g
  exact ok_some ⟨rfl, f15.tr f16, m16, b16⟩
