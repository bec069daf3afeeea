/-! ===== the law's loop ===== -/
theorem nI_p2 (a : Nat) : nI a + 2 = nI (a + 2) := nI_add a 2
theorem nI_p3 (a : Nat) : nI a + 3 = nI (a + 3) := nI_add a 3
theorem nI_p4 (a : Nat) : nI a + 4 = nI (a + 4) := nI_add a 4
theorem nI_p5 (a : Nat) : nI a + 5 = nI (a + 5) := nI_add a 5
theorem nI_p6 (a : Nat) : nI a + 6 = nI (a + 6) := nI_add a 6
/-- what a call leaves of the loop to do -/
abbrev lwK (K : Int32 → St → Option (Int32 × St)) (i : Nat) : Prop := ∀ (s : St) (T : Td), okT T → isCT s T → isMT s T → ∃ σ', K (nI (i + 6)) s = some (1, σ')
theorem law_st {σ : St} {T T' : Td} {x : Int32} {r6 : Option (Int32 × St)} {r7 : St → Option (Int32 × St)} {K Z : St → Option (Int32 × St)} (hM : isMT σ T) (h1 : CL r6 σ x T') (h2 : ∀ s, isMT s T → MD (r7 s) s x T') (hK : ∀ s, isCT s T' → isMT s T' → ∃ σ', K s = some (1, σ')) : ∃ σ', sy_bd r6 (fun r3 σ2 => sy_bd (r7 σ2) (fun r5 σ4 => if r3 = r5 then K σ4 else Z σ4)) = some (1, σ') := by
  obtain ⟨y, s, e, e1, f1, c1⟩ := ok_of h1
  obtain ⟨z, s2, g, g1, f2, m2⟩ := ok_of (h2 s (f1.MT hM))
  rw [e, bd_some, g, bd_some, if_pos (e1.trans g1.symm)]
  exact hK s2 (f2.CT c1) m2
theorem law_sL {σ : St} {T T' : Td} {x : Int64} {r6 : Option (Int64 × St)} {r7 : St → Option (Int64 × St)} {K Z : St → Option (Int32 × St)} (hM : isMT σ T) (h1 : CL r6 σ x T') (h2 : ∀ s, isMT s T → MD (r7 s) s x T') (hK : ∀ s, isCT s T' → isMT s T' → ∃ σ', K s = some (1, σ')) : ∃ σ', sy_bd r6 (fun r3 σ2 => sy_bd (r7 σ2) (fun r5 σ4 => if lg_cmp r3 r5 = 0 then K σ4 else Z σ4)) = some (1, σ') := by
  obtain ⟨y, s, e, e1, f1, c1⟩ := ok_of h1
  obtain ⟨z, s2, g, g1, f2, m2⟩ := ok_of (h2 s (f1.MT hM))
  rw [e, bd_some, g, bd_some, if_pos (lg_zero.mpr (e1.trans g1.symm))]
  exact hK s2 (f2.CT c1) m2
theorem law_type {L i : Nat} {xs : Nat → Int32} {σ : St} {T : Td} {K : Int32 → St → Option (Int32 × St)} (hi : i + 6 ≤ L) (hL : L ≤ 3072) (hT : okT T) (hC : isCT σ T) (hM : isMT σ T) (hK : lwK K i) : ∃ σ', sy_gd (nI i + 1) L (sy_gd (nI i + 2) L (sy_bd (m6_type (xs (sy_ix (nI i + 1))) (xs (sy_ix (nI i + 2))) σ) (fun r2 σ2 => sy_gd (nI i + 1) L (sy_gd (nI i + 2) L (sy_bd (m7_type (xs (sy_ix (nI i + 1))) (xs (sy_ix (nI i + 2))) σ2) (fun r4 σ4 => if r2 = r4 then (K (nI i + 6) σ4) else (sy_zg 0 (some (0, σ4))))))))) = some (1, σ') := by
  simp (disch := omega) only [nI_1, nI_p2, nI_p3, nI_p4, nI_p5, nI_p6, gd_nI, sy_ix, ix_nI]
  exact law_st hM (cl_type hT hC _ _) (fun s hs => md_type hT hs _ _) (fun s c m => hK s _ (an_type_ok hT _ _) c m)
theorem law_wipe {L i : Nat} {xs : Nat → Int32} {σ : St} {T : Td} {K : Int32 → St → Option (Int32 × St)} (hi : i + 6 ≤ L) (hL : L ≤ 3072) (hT : okT T) (hC : isCT σ T) (hM : isMT σ T) (hK : lwK K i) : ∃ σ', sy_gd (nI i + 1) L (sy_bd (m6_wipe (xs (sy_ix (nI i + 1))) σ) (fun r2 σ2 => sy_gd (nI i + 1) L (sy_bd (m7_wipe (xs (sy_ix (nI i + 1))) σ2) (fun r4 σ4 => if r2 = r4 then (K (nI i + 6) σ4) else (sy_zg 0 (some (0, σ4))))))) = some (1, σ') := by
  simp (disch := omega) only [nI_1, nI_p2, nI_p3, nI_p4, nI_p5, nI_p6, gd_nI, sy_ix, ix_nI]
  exact law_st hM (cl_wipe hT hC _) (fun s hs => md_wipe hT hs _) (fun s c m => hK s _ (an_wipe_ok hT _) c m)
theorem law_undo {L i : Nat} {xs : Nat → Int32} {σ : St} {T : Td} {K : Int32 → St → Option (Int32 × St)} (hi : i + 6 ≤ L) (hL : L ≤ 3072) (hT : okT T) (hC : isCT σ T) (hM : isMT σ T) (hK : lwK K i) : ∃ σ', sy_gd (nI i + 1) L (sy_bd (m6_undo (xs (sy_ix (nI i + 1))) σ) (fun r2 σ2 => sy_gd (nI i + 1) L (sy_bd (m7_undo (xs (sy_ix (nI i + 1))) σ2) (fun r4 σ4 => if r2 = r4 then (K (nI i + 6) σ4) else (sy_zg 0 (some (0, σ4))))))) = some (1, σ') := by
  simp (disch := omega) only [nI_1, nI_p2, nI_p3, nI_p4, nI_p5, nI_p6, gd_nI, sy_ix, ix_nI]
  exact law_st hM (cl_undo hT hC _) (fun s hs => md_undo hT hs _) (fun s c m => hK s _ (an_undo_ok hT _) c m)
theorem law_fault {L i : Nat} {xs : Nat → Int32} {σ : St} {T : Td} {K : Int32 → St → Option (Int32 × St)} (hi : i + 6 ≤ L) (hL : L ≤ 3072) (hT : okT T) (hC : isCT σ T) (hM : isMT σ T) (hK : lwK K i) : ∃ σ', sy_gd (nI i + 1) L (sy_bd (m6_fault (xs (sy_ix (nI i + 1))) σ) (fun r2 σ2 => sy_gd (nI i + 1) L (sy_bd (m7_fault (xs (sy_ix (nI i + 1))) σ2) (fun r4 σ4 => if r2 = r4 then (K (nI i + 6) σ4) else (sy_zg 0 (some (0, σ4))))))) = some (1, σ') := by
  simp (disch := omega) only [nI_1, nI_p2, nI_p3, nI_p4, nI_p5, nI_p6, gd_nI, sy_ix, ix_nI]
  exact law_st hM (cl_fault hT hC _) (fun s hs => md_fault hT hs _) (fun s c m => hK s _ hT c m)
theorem law_player {L i : Nat} {xs : Nat → Int32} {σ : St} {T : Td} {K : Int32 → St → Option (Int32 × St)} (hi : i + 6 ≤ L) (hL : L ≤ 3072) (hT : okT T) (hC : isCT σ T) (hM : isMT σ T) (hK : lwK K i) : ∃ σ', sy_gd (nI i + 1) L (sy_gd (nI i + 2) L (sy_bd (m6_player (xs (sy_ix (nI i + 1))) (xs (sy_ix (nI i + 2))) σ) (fun r2 σ2 => sy_gd (nI i + 1) L (sy_gd (nI i + 2) L (sy_bd (m7_player (xs (sy_ix (nI i + 1))) (xs (sy_ix (nI i + 2))) σ2) (fun r4 σ4 => if r2 = r4 then (K (nI i + 6) σ4) else (sy_zg 0 (some (0, σ4))))))))) = some (1, σ') := by
  simp (disch := omega) only [nI_1, nI_p2, nI_p3, nI_p4, nI_p5, nI_p6, gd_nI, sy_ix, ix_nI]
  exact law_st hM (cl_player hT hC _ _) (fun s hs => md_player hT hs _ _) (fun s c m => hK s _ hT c m)
theorem law_note {L i : Nat} {xs : Nat → Int32} {σ : St} {T : Td} {K : Int32 → St → Option (Int32 × St)} (hi : i + 6 ≤ L) (hL : L ≤ 3072) (hT : okT T) (hC : isCT σ T) (hM : isMT σ T) (hK : lwK K i) : ∃ σ', sy_gd (nI i + 1) L (sy_gd (nI i + 2) L (sy_bd (m6_note (xs (sy_ix (nI i + 1))) (xs (sy_ix (nI i + 2))) σ) (fun r2 σ2 => sy_gd (nI i + 1) L (sy_gd (nI i + 2) L (sy_bd (m7_note (xs (sy_ix (nI i + 1))) (xs (sy_ix (nI i + 2))) σ2) (fun r4 σ4 => if r2 = r4 then (K (nI i + 6) σ4) else (sy_zg 0 (some (0, σ4))))))))) = some (1, σ') := by
  simp (disch := omega) only [nI_1, nI_p2, nI_p3, nI_p4, nI_p5, nI_p6, gd_nI, sy_ix, ix_nI]
  exact law_st hM (cl_note hT hC _ _) (fun s hs => md_note hT hs _ _) (fun s c m => hK s _ hT c m)
theorem law_bag {L i : Nat} {xs : Nat → Int32} {σ : St} {T : Td} {K : Int32 → St → Option (Int32 × St)} (hi : i + 6 ≤ L) (hL : L ≤ 3072) (hT : okT T) (hC : isCT σ T) (hM : isMT σ T) (hK : lwK K i) : ∃ σ', sy_gd (nI i + 1) L (sy_bd (m6_bag (xs (sy_ix (nI i + 1))) σ) (fun r2 σ2 => sy_gd (nI i + 1) L (sy_bd (m7_bag (xs (sy_ix (nI i + 1))) σ2) (fun r4 σ4 => if r2 = r4 then (K (nI i + 6) σ4) else (sy_zg 0 (some (0, σ4))))))) = some (1, σ') := by
  simp (disch := omega) only [nI_1, nI_p2, nI_p3, nI_p4, nI_p5, nI_p6, gd_nI, sy_ix, ix_nI]
  exact law_st hM (cl_bag hT hC _) (fun s hs => md_bag hT hs _) (fun s c m => hK s _ (an_bag_ok hT _) c m)
theorem law_event {L i : Nat} {xs : Nat → Int32} {σ : St} {T : Td} {K : Int32 → St → Option (Int32 × St)} (hi : i + 6 ≤ L) (hL : L ≤ 3072) (hT : okT T) (hC : isCT σ T) (hM : isMT σ T) (hK : lwK K i) : ∃ σ', sy_gd (nI i + 1) L (sy_gd (nI i + 2) L (sy_bd (m6_event (xs (sy_ix (nI i + 1))) (xs (sy_ix (nI i + 2))) σ) (fun r2 σ2 => sy_gd (nI i + 1) L (sy_gd (nI i + 2) L (sy_bd (m7_event (xs (sy_ix (nI i + 1))) (xs (sy_ix (nI i + 2))) σ2) (fun r4 σ4 => if r2 = r4 then (K (nI i + 6) σ4) else (sy_zg 0 (some (0, σ4))))))))) = some (1, σ') := by
  simp (disch := omega) only [nI_1, nI_p2, nI_p3, nI_p4, nI_p5, nI_p6, gd_nI, sy_ix, ix_nI]
  exact law_st hM (cl_event hT hC _ _) (fun s hs => md_event hT hs _ _) (fun s c m => hK s _ (an_event_ok hT _ _) c m)
theorem law_back {L i : Nat} {xs : Nat → Int32} {σ : St} {T : Td} {K : Int32 → St → Option (Int32 × St)} (hi : i + 6 ≤ L) (hL : L ≤ 3072) (hT : okT T) (hC : isCT σ T) (hM : isMT σ T) (hK : lwK K i) : ∃ σ', sy_bd (m6_back σ) (fun r2 σ2 => sy_bd (m7_back σ2) (fun r4 σ4 => if r2 = r4 then (K (nI i + 6) σ4) else (sy_zg 0 (some (0, σ4))))) = some (1, σ') := by
  simp (disch := omega) only [nI_1, nI_p2, nI_p3, nI_p4, nI_p5, nI_p6, gd_nI, sy_ix, ix_nI]
  exact law_st hM (cl_back hT hC) (fun s hs => md_back hT hs) (fun s c m => hK s _ (an_back_ok hT) c m)
theorem law_read {L i : Nat} {xs : Nat → Int32} {σ : St} {T : Td} {K : Int32 → St → Option (Int32 × St)} (hi : i + 6 ≤ L) (hL : L ≤ 3072) (hT : okT T) (hC : isCT σ T) (hM : isMT σ T) (hK : lwK K i) : ∃ σ', sy_gd (nI i + 1) L (sy_bd (m6_read (xs (sy_ix (nI i + 1))) σ) (fun r2 σ2 => sy_gd (nI i + 1) L (sy_bd (m7_read (xs (sy_ix (nI i + 1))) σ2) (fun r4 σ4 => if r2 = r4 then (K (nI i + 6) σ4) else (sy_zg 0 (some (0, σ4))))))) = some (1, σ') := by
  simp (disch := omega) only [nI_1, nI_p2, nI_p3, nI_p4, nI_p5, nI_p6, gd_nI, sy_ix, ix_nI]
  exact law_st hM (cl_read hT hC _) (fun s hs => md_read hT hs _) (fun s c m => hK s _ (an_read_ok hT _) c m)
theorem law_at {L i : Nat} {xs : Nat → Int32} {σ : St} {T : Td} {K : Int32 → St → Option (Int32 × St)} (hi : i + 6 ≤ L) (hL : L ≤ 3072) (hT : okT T) (hC : isCT σ T) (hM : isMT σ T) (hK : lwK K i) : ∃ σ', sy_gd (nI i + 1) L (sy_gd (nI i + 2) L (sy_bd (m6_at (xs (sy_ix (nI i + 1))) (xs (sy_ix (nI i + 2))) σ) (fun r2 σ2 => sy_gd (nI i + 1) L (sy_gd (nI i + 2) L (sy_bd (m7_at (xs (sy_ix (nI i + 1))) (xs (sy_ix (nI i + 2))) σ2) (fun r4 σ4 => if r2 = r4 then (K (nI i + 6) σ4) else (sy_zg 0 (some (0, σ4))))))))) = some (1, σ') := by
  simp (disch := omega) only [nI_1, nI_p2, nI_p3, nI_p4, nI_p5, nI_p6, gd_nI, sy_ix, ix_nI]
  exact law_st hM (cl_at hT hC _ _) (fun s hs => md_at hT hs _ _) (fun s c m => hK s _ hT c m)
theorem law_heard {L i : Nat} {xs : Nat → Int32} {σ : St} {T : Td} {K : Int32 → St → Option (Int32 × St)} (hi : i + 6 ≤ L) (hL : L ≤ 3072) (hT : okT T) (hC : isCT σ T) (hM : isMT σ T) (hK : lwK K i) : ∃ σ', sy_gd (nI i + 1) L (sy_bd (m6_heard (xs (sy_ix (nI i + 1))) σ) (fun r2 σ2 => sy_gd (nI i + 1) L (sy_bd (m7_heard (xs (sy_ix (nI i + 1))) σ2) (fun r4 σ4 => if r2 = r4 then (K (nI i + 6) σ4) else (sy_zg 0 (some (0, σ4))))))) = some (1, σ') := by
  simp (disch := omega) only [nI_1, nI_p2, nI_p3, nI_p4, nI_p5, nI_p6, gd_nI, sy_ix, ix_nI]
  exact law_st hM (cl_heard hT hC _) (fun s hs => md_heard hT hs _) (fun s c m => hK s _ hT c m)
theorem law_takes {L i : Nat} {xs : Nat → Int32} {σ : St} {T : Td} {K : Int32 → St → Option (Int32 × St)} (hi : i + 6 ≤ L) (hL : L ≤ 3072) (hT : okT T) (hC : isCT σ T) (hM : isMT σ T) (hK : lwK K i) : ∃ σ', sy_gd (nI i + 1) L (sy_gd (nI i + 2) L (sy_bd (m6_takes (xs (sy_ix (nI i + 1))) (xs (sy_ix (nI i + 2))) σ) (fun r2 σ2 => sy_gd (nI i + 1) L (sy_gd (nI i + 2) L (sy_bd (m7_takes (xs (sy_ix (nI i + 1))) (xs (sy_ix (nI i + 2))) σ2) (fun r4 σ4 => if r2 = r4 then (K (nI i + 6) σ4) else (sy_zg 0 (some (0, σ4))))))))) = some (1, σ') := by
  simp (disch := omega) only [nI_1, nI_p2, nI_p3, nI_p4, nI_p5, nI_p6, gd_nI, sy_ix, ix_nI]
  exact law_st hM (cl_takes hT hC _ _) (fun s hs => md_takes hT hs _ _) (fun s c m => hK s _ hT c m)
theorem law_sum {L i : Nat} {xs : Nat → Int32} {σ : St} {T : Td} {K : Int32 → St → Option (Int32 × St)} (hi : i + 6 ≤ L) (hL : L ≤ 3072) (hT : okT T) (hC : isCT σ T) (hM : isMT σ T) (hK : lwK K i) : ∃ σ', sy_gd (nI i + 1) L (sy_bd (m6_sum (xs (sy_ix (nI i + 1))) σ) (fun r2 σ2 => sy_gd (nI i + 1) L (sy_bd (m7_sum (xs (sy_ix (nI i + 1))) σ2) (fun r4 σ4 => if r2 = r4 then (K (nI i + 6) σ4) else (sy_zg 0 (some (0, σ4))))))) = some (1, σ') := by
  simp (disch := omega) only [nI_1, nI_p2, nI_p3, nI_p4, nI_p5, nI_p6, gd_nI, sy_ix, ix_nI]
  exact law_st hM (cl_sum hT hC _) (fun s hs => md_sum hT hs _) (fun s c m => hK s _ hT c m)
theorem law_flat {L i : Nat} {xs : Nat → Int32} {σ : St} {T : Td} {K : Int32 → St → Option (Int32 × St)} (hi : i + 6 ≤ L) (hL : L ≤ 3072) (hT : okT T) (hC : isCT σ T) (hM : isMT σ T) (hK : lwK K i) : ∃ σ', sy_bd (m6_flat σ) (fun r2 σ2 => sy_bd (m7_flat σ2) (fun r4 σ4 => if r2 = r4 then (K (nI i + 6) σ4) else (sy_zg 0 (some (0, σ4))))) = some (1, σ') := by
  simp (disch := omega) only [nI_1, nI_p2, nI_p3, nI_p4, nI_p5, nI_p6, gd_nI, sy_ix, ix_nI]
  exact law_st hM (cl_flat hT hC) (fun s hs => md_flat hT hs) (fun s c m => hK s _ hT c m)
theorem law_silent {L i : Nat} {xs : Nat → Int32} {σ : St} {T : Td} {K : Int32 → St → Option (Int32 × St)} (hi : i + 6 ≤ L) (hL : L ≤ 3072) (hT : okT T) (hC : isCT σ T) (hM : isMT σ T) (hK : lwK K i) : ∃ σ', sy_bd (m6_silent σ) (fun r2 σ2 => sy_bd (m7_silent σ2) (fun r4 σ4 => if r2 = r4 then (K (nI i + 6) σ4) else (sy_zg 0 (some (0, σ4))))) = some (1, σ') := by
  simp (disch := omega) only [nI_1, nI_p2, nI_p3, nI_p4, nI_p5, nI_p6, gd_nI, sy_ix, ix_nI]
  exact law_st hM (cl_silent hT hC) (fun s hs => md_silent hT hs) (fun s c m => hK s _ hT c m)
theorem law_greedy {L i : Nat} {xs : Nat → Int32} {σ : St} {T : Td} {K : Int32 → St → Option (Int32 × St)} (hi : i + 6 ≤ L) (hL : L ≤ 3072) (hT : okT T) (hC : isCT σ T) (hM : isMT σ T) (hK : lwK K i) : ∃ σ', sy_bd (m6_greedy σ) (fun r2 σ2 => sy_bd (m7_greedy σ2) (fun r4 σ4 => if r2 = r4 then (K (nI i + 6) σ4) else (sy_zg 0 (some (0, σ4))))) = some (1, σ') := by
  simp (disch := omega) only [nI_1, nI_p2, nI_p3, nI_p4, nI_p5, nI_p6, gd_nI, sy_ix, ix_nI]
  exact law_st hM (cl_greedy hT hC) (fun s hs => md_greedy hT hs) (fun s c m => hK s _ hT c m)
theorem law_fill {L i : Nat} {xs : Nat → Int32} {σ : St} {T : Td} {K : Int32 → St → Option (Int32 × St)} (hi : i + 6 ≤ L) (hL : L ≤ 3072) (hT : okT T) (hC : isCT σ T) (hM : isMT σ T) (hK : lwK K i) : ∃ σ', sy_gd (nI i + 1) L (sy_bd (m6_fill (xs (sy_ix (nI i + 1))) σ) (fun r2 σ2 => sy_gd (nI i + 1) L (sy_bd (m7_fill (xs (sy_ix (nI i + 1))) σ2) (fun r4 σ4 => if r2 = r4 then (K (nI i + 6) σ4) else (sy_zg 0 (some (0, σ4))))))) = some (1, σ') := by
  simp (disch := omega) only [nI_1, nI_p2, nI_p3, nI_p4, nI_p5, nI_p6, gd_nI, sy_ix, ix_nI]
  exact law_st hM (cl_fill hT hC _) (fun s hs => md_fill hT hs _) (fun s c m => hK s _ hT c m)
theorem law_swap {L i : Nat} {xs : Nat → Int32} {σ : St} {T : Td} {K : Int32 → St → Option (Int32 × St)} (hi : i + 6 ≤ L) (hL : L ≤ 3072) (hT : okT T) (hC : isCT σ T) (hM : isMT σ T) (hK : lwK K i) : ∃ σ', sy_gd (nI i + 1) L (sy_bd (m6_swap (xs (sy_ix (nI i + 1))) σ) (fun r2 σ2 => sy_gd (nI i + 1) L (sy_bd (m7_swap (xs (sy_ix (nI i + 1))) σ2) (fun r4 σ4 => if r2 = r4 then (K (nI i + 6) σ4) else (sy_zg 0 (some (0, σ4))))))) = some (1, σ') := by
  simp (disch := omega) only [nI_1, nI_p2, nI_p3, nI_p4, nI_p5, nI_p6, gd_nI, sy_ix, ix_nI]
  exact law_st hM (cl_swap hT hC _) (fun s hs => md_swap hT hs _) (fun s c m => hK s _ hT c m)
theorem law_hold {L i : Nat} {xs : Nat → Int32} {σ : St} {T : Td} {K : Int32 → St → Option (Int32 × St)} (hi : i + 6 ≤ L) (hL : L ≤ 3072) (hT : okT T) (hC : isCT σ T) (hM : isMT σ T) (hK : lwK K i) : ∃ σ', sy_gd (nI i + 1) L (sy_bd (m6_hold (xs (sy_ix (nI i + 1))) σ) (fun r2 σ2 => sy_gd (nI i + 1) L (sy_bd (m7_hold (xs (sy_ix (nI i + 1))) σ2) (fun r4 σ4 => if r2 = r4 then (K (nI i + 6) σ4) else (sy_zg 0 (some (0, σ4))))))) = some (1, σ') := by
  simp (disch := omega) only [nI_1, nI_p2, nI_p3, nI_p4, nI_p5, nI_p6, gd_nI, sy_ix, ix_nI]
  exact law_st hM (cl_hold hT hC _) (fun s hs => md_hold hT hs _) (fun s c m => hK s _ hT c m)
theorem law_spare {L i : Nat} {xs : Nat → Int32} {σ : St} {T : Td} {K : Int32 → St → Option (Int32 × St)} (hi : i + 6 ≤ L) (hL : L ≤ 3072) (hT : okT T) (hC : isCT σ T) (hM : isMT σ T) (hK : lwK K i) : ∃ σ', sy_gd (nI i + 1) L (sy_bd (m6_spare (xs (sy_ix (nI i + 1))) σ) (fun r2 σ2 => sy_gd (nI i + 1) L (sy_bd (m7_spare (xs (sy_ix (nI i + 1))) σ2) (fun r4 σ4 => if r2 = r4 then (K (nI i + 6) σ4) else (sy_zg 0 (some (0, σ4))))))) = some (1, σ') := by
  simp (disch := omega) only [nI_1, nI_p2, nI_p3, nI_p4, nI_p5, nI_p6, gd_nI, sy_ix, ix_nI]
  exact law_st hM (cl_spare hT hC _) (fun s hs => md_spare hT hs _) (fun s c m => hK s _ hT c m)
theorem law_hear {L i : Nat} {xs : Nat → Int32} {σ : St} {T : Td} {K : Int32 → St → Option (Int32 × St)} (hi : i + 6 ≤ L) (hL : L ≤ 3072) (hT : okT T) (hC : isCT σ T) (hM : isMT σ T) (hK : lwK K i) : ∃ σ', sy_gd (nI i + 1) L (sy_gd (nI i + 2) L (sy_bd (m6_hear (xs (sy_ix (nI i + 1))) (xs (sy_ix (nI i + 2))) σ) (fun r2 σ2 => sy_gd (nI i + 1) L (sy_gd (nI i + 2) L (sy_bd (m7_hear (xs (sy_ix (nI i + 1))) (xs (sy_ix (nI i + 2))) σ2) (fun r4 σ4 => if r2 = r4 then (K (nI i + 6) σ4) else (sy_zg 0 (some (0, σ4))))))))) = some (1, σ') := by
  simp (disch := omega) only [nI_1, nI_p2, nI_p3, nI_p4, nI_p5, nI_p6, gd_nI, sy_ix, ix_nI]
  exact law_st hM (cl_hear hT hC _ _) (fun s hs => md_hear hT hs _ _) (fun s c m => hK s _ (an_hear_ok hT _ _) c m)
theorem law_forget {L i : Nat} {xs : Nat → Int32} {σ : St} {T : Td} {K : Int32 → St → Option (Int32 × St)} (hi : i + 6 ≤ L) (hL : L ≤ 3072) (hT : okT T) (hC : isCT σ T) (hM : isMT σ T) (hK : lwK K i) : ∃ σ', sy_bd (m6_forget σ) (fun r2 σ2 => sy_bd (m7_forget σ2) (fun r4 σ4 => if r2 = r4 then (K (nI i + 6) σ4) else (sy_zg 0 (some (0, σ4))))) = some (1, σ') := by
  simp (disch := omega) only [nI_1, nI_p2, nI_p3, nI_p4, nI_p5, nI_p6, gd_nI, sy_ix, ix_nI]
  exact law_st hM (cl_forget hT hC) (fun s hs => md_forget hT hs) (fun s c m => hK s _ (an_forget_ok hT) c m)
theorem law_never {L i : Nat} {xs : Nat → Int32} {σ : St} {T : Td} {K : Int32 → St → Option (Int32 × St)} (hi : i + 6 ≤ L) (hL : L ≤ 3072) (hT : okT T) (hC : isCT σ T) (hM : isMT σ T) (hK : lwK K i) : ∃ σ', sy_bd (m6_never σ) (fun r2 σ2 => sy_bd (m7_never σ2) (fun r4 σ4 => if r2 = r4 then (K (nI i + 6) σ4) else (sy_zg 0 (some (0, σ4))))) = some (1, σ') := by
  simp (disch := omega) only [nI_1, nI_p2, nI_p3, nI_p4, nI_p5, nI_p6, gd_nI, sy_ix, ix_nI]
  exact law_st hM (cl_never hT hC) (fun s hs => md_never hT hs) (fun s c m => hK s _ hT c m)
theorem law_was {L i : Nat} {xs : Nat → Int32} {σ : St} {T : Td} {K : Int32 → St → Option (Int32 × St)} (hi : i + 6 ≤ L) (hL : L ≤ 3072) (hT : okT T) (hC : isCT σ T) (hM : isMT σ T) (hK : lwK K i) : ∃ σ', sy_gd (nI i + 1) L (sy_gd (nI i + 2) L (sy_bd (m6_was (xs (sy_ix (nI i + 1))) (xs (sy_ix (nI i + 2))) σ) (fun r2 σ2 => sy_gd (nI i + 1) L (sy_gd (nI i + 2) L (sy_bd (m7_was (xs (sy_ix (nI i + 1))) (xs (sy_ix (nI i + 2))) σ2) (fun r4 σ4 => if r2 = r4 then (K (nI i + 6) σ4) else (sy_zg 0 (some (0, σ4))))))))) = some (1, σ') := by
  simp (disch := omega) only [nI_1, nI_p2, nI_p3, nI_p4, nI_p5, nI_p6, gd_nI, sy_ix, ix_nI]
  exact law_st hM (cl_was hT hC _ _) (fun s hs => md_was hT hs _ _) (fun s c m => hK s _ hT c m)
theorem law_ask {L i : Nat} {xs : Nat → Int32} {σ : St} {T : Td} {K : Int32 → St → Option (Int32 × St)} (hi : i + 6 ≤ L) (hL : L ≤ 3072) (hT : okT T) (hC : isCT σ T) (hM : isMT σ T) (hK : lwK K i) : ∃ σ', sy_gd (nI i + 1) L (sy_bd (m6_ask (xs (sy_ix (nI i + 1))) σ) (fun r2 σ2 => sy_gd (nI i + 1) L (sy_bd (m7_ask (xs (sy_ix (nI i + 1))) σ2) (fun r4 σ4 => if r2 = r4 then (K (nI i + 6) σ4) else (sy_zg 0 (some (0, σ4))))))) = some (1, σ') := by
  simp (disch := omega) only [nI_1, nI_p2, nI_p3, nI_p4, nI_p5, nI_p6, gd_nI, sy_ix, ix_nI]
  exact law_st hM (cl_ask hT hC _) (fun s hs => md_ask hT hs _) (fun s c m => hK s _ hT c m)
theorem law_chance {L i : Nat} {xs : Nat → Int32} {σ : St} {T : Td} {K : Int32 → St → Option (Int32 × St)} (hi : i + 6 ≤ L) (hL : L ≤ 3072) (hT : okT T) (hC : isCT σ T) (hM : isMT σ T) (hK : lwK K i) : ∃ σ', sy_gd (nI i + 1) L (sy_gd (nI i + 2) L (sy_gd (nI i + 3) L (sy_bd (m6_chance (xs (sy_ix (nI i + 1))) (xs (sy_ix (nI i + 2))) (xs (sy_ix (nI i + 3))) σ) (fun r2 σ2 => sy_gd (nI i + 1) L (sy_gd (nI i + 2) L (sy_gd (nI i + 3) L (sy_bd (m7_chance (xs (sy_ix (nI i + 1))) (xs (sy_ix (nI i + 2))) (xs (sy_ix (nI i + 3))) σ2) (fun r4 σ4 => if lg_cmp r2 r4 = 0 then (K (nI i + 6) σ4) else (sy_zg 0 (some (0, σ4))))))))))) = some (1, σ') := by
  simp (disch := omega) only [nI_1, nI_p2, nI_p3, nI_p4, nI_p5, nI_p6, gd_nI, sy_ix, ix_nI]
  exact law_sL hM (cl_chance hT hC _ _ _) (fun s hs => md_chance hT hs _ _ _) (fun s c m => hK s _ hT c m)
theorem law_years {L i : Nat} {xs : Nat → Int32} {σ : St} {T : Td} {K : Int32 → St → Option (Int32 × St)} (hi : i + 6 ≤ L) (hL : L ≤ 3072) (hT : okT T) (hC : isCT σ T) (hM : isMT σ T) (hK : lwK K i) : ∃ σ', sy_gd (nI i + 1) L (sy_gd (nI i + 2) L (sy_gd (nI i + 3) L (sy_bd (m6_years (xs (sy_ix (nI i + 1))) (xs (sy_ix (nI i + 2))) (xs (sy_ix (nI i + 3))) σ) (fun r2 σ2 => sy_gd (nI i + 1) L (sy_gd (nI i + 2) L (sy_gd (nI i + 3) L (sy_bd (m7_years (xs (sy_ix (nI i + 1))) (xs (sy_ix (nI i + 2))) (xs (sy_ix (nI i + 3))) σ2) (fun r4 σ4 => if r2 = r4 then (K (nI i + 6) σ4) else (sy_zg 0 (some (0, σ4))))))))))) = some (1, σ') := by
  simp (disch := omega) only [nI_1, nI_p2, nI_p3, nI_p4, nI_p5, nI_p6, gd_nI, sy_ix, ix_nI]
  exact law_st hM (cl_years hT hC _ _ _) (fun s hs => md_years hT hs _ _ _) (fun s c m => hK s _ hT c m)
theorem law_sheet {L i : Nat} {xs : Nat → Int32} {σ : St} {T : Td} {K : Int32 → St → Option (Int32 × St)} (hi : i + 6 ≤ L) (hL : L ≤ 3072) (hT : okT T) (hC : isCT σ T) (hM : isMT σ T) (hK : lwK K i) : ∃ σ', sy_gd (nI i + 1) L (sy_gd (nI i + 2) L (sy_gd (nI i + 3) L (sy_bd (m6_sheet (xs (sy_ix (nI i + 1))) (xs (sy_ix (nI i + 2))) (xs (sy_ix (nI i + 3))) σ) (fun r2 σ2 => sy_gd (nI i + 1) L (sy_gd (nI i + 2) L (sy_gd (nI i + 3) L (sy_bd (m7_sheet (xs (sy_ix (nI i + 1))) (xs (sy_ix (nI i + 2))) (xs (sy_ix (nI i + 3))) σ2) (fun r4 σ4 => if r2 = r4 then (K (nI i + 6) σ4) else (sy_zg 0 (some (0, σ4))))))))))) = some (1, σ') := by
  simp (disch := omega) only [nI_1, nI_p2, nI_p3, nI_p4, nI_p5, nI_p6, gd_nI, sy_ix, ix_nI]
  exact law_st hM (cl_sheet hT hC _ _ _) (fun s hs => md_sheet hT hs _ _ _) (fun s c m => hK s _ (an_sheet_ok hT _ _ _) c m)
theorem law_lose {L i : Nat} {xs : Nat → Int32} {σ : St} {T : Td} {K : Int32 → St → Option (Int32 × St)} (hi : i + 6 ≤ L) (hL : L ≤ 3072) (hT : okT T) (hC : isCT σ T) (hM : isMT σ T) (hK : lwK K i) : ∃ σ', sy_gd (nI i + 1) L (sy_bd (m6_lose (xs (sy_ix (nI i + 1))) σ) (fun r2 σ2 => sy_gd (nI i + 1) L (sy_bd (m7_lose (xs (sy_ix (nI i + 1))) σ2) (fun r4 σ4 => if r2 = r4 then (K (nI i + 6) σ4) else (sy_zg 0 (some (0, σ4))))))) = some (1, σ') := by
  simp (disch := omega) only [nI_1, nI_p2, nI_p3, nI_p4, nI_p5, nI_p6, gd_nI, sy_ix, ix_nI]
  exact law_st hM (cl_lose hT hC _) (fun s hs => md_lose hT hs _) (fun s c m => hK s _ (an_lose_ok hT _) c m)
theorem law_lay {L i : Nat} {xs : Nat → Int32} {σ : St} {T : Td} {K : Int32 → St → Option (Int32 × St)} (hi : i + 6 ≤ L) (hL : L ≤ 3072) (hT : okT T) (hC : isCT σ T) (hM : isMT σ T) (hK : lwK K i) : ∃ σ', sy_gd (nI i + 1) L (sy_gd (nI i + 2) L (sy_gd (nI i + 3) L (sy_gd (nI i + 4) L (sy_bd (m6_lay (xs (sy_ix (nI i + 1))) (xs (sy_ix (nI i + 2))) (xs (sy_ix (nI i + 3))) (xs (sy_ix (nI i + 4))) σ) (fun r2 σ2 => sy_gd (nI i + 1) L (sy_gd (nI i + 2) L (sy_gd (nI i + 3) L (sy_gd (nI i + 4) L (sy_bd (m7_lay (xs (sy_ix (nI i + 1))) (xs (sy_ix (nI i + 2))) (xs (sy_ix (nI i + 3))) (xs (sy_ix (nI i + 4))) σ2) (fun r4 σ4 => if r2 = r4 then (K (nI i + 6) σ4) else (sy_zg 0 (some (0, σ4))))))))))))) = some (1, σ') := by
  simp (disch := omega) only [nI_1, nI_p2, nI_p3, nI_p4, nI_p5, nI_p6, gd_nI, sy_ix, ix_nI]
  exact law_st hM (cl_lay hT hC _ _ _ _) (fun s hs => md_lay hT hs _ _ _ _) (fun s c m => hK s _ (an_lay_ok hT _ _ _ _) c m)
theorem law_get {L i : Nat} {xs : Nat → Int32} {σ : St} {T : Td} {K : Int32 → St → Option (Int32 × St)} (hi : i + 6 ≤ L) (hL : L ≤ 3072) (hT : okT T) (hC : isCT σ T) (hM : isMT σ T) (hK : lwK K i) : ∃ σ', sy_gd (nI i + 1) L (sy_gd (nI i + 2) L (sy_gd (nI i + 3) L (sy_bd (m6_get (xs (sy_ix (nI i + 1))) (xs (sy_ix (nI i + 2))) (xs (sy_ix (nI i + 3))) σ) (fun r2 σ2 => sy_gd (nI i + 1) L (sy_gd (nI i + 2) L (sy_gd (nI i + 3) L (sy_bd (m7_get (xs (sy_ix (nI i + 1))) (xs (sy_ix (nI i + 2))) (xs (sy_ix (nI i + 3))) σ2) (fun r4 σ4 => if r2 = r4 then (K (nI i + 6) σ4) else (sy_zg 0 (some (0, σ4))))))))))) = some (1, σ') := by
  simp (disch := omega) only [nI_1, nI_p2, nI_p3, nI_p4, nI_p5, nI_p6, gd_nI, sy_ix, ix_nI]
  exact law_st hM (cl_get hT hC _ _ _) (fun s hs => md_get hT hs _ _ _) (fun s c m => hK s _ (an_get_ok hT _ _ _) c m)
theorem law_copy {L i : Nat} {xs : Nat → Int32} {σ : St} {T : Td} {K : Int32 → St → Option (Int32 × St)} (hi : i + 6 ≤ L) (hL : L ≤ 3072) (hT : okT T) (hC : isCT σ T) (hM : isMT σ T) (hK : lwK K i) : ∃ σ', sy_gd (nI i + 1) L (sy_gd (nI i + 2) L (sy_gd (nI i + 3) L (sy_gd (nI i + 4) L (sy_gd (nI i + 5) L (sy_bd (m6_copy (xs (sy_ix (nI i + 1))) (xs (sy_ix (nI i + 2))) (xs (sy_ix (nI i + 3))) (xs (sy_ix (nI i + 4))) (xs (sy_ix (nI i + 5))) σ) (fun r2 σ2 => sy_gd (nI i + 1) L (sy_gd (nI i + 2) L (sy_gd (nI i + 3) L (sy_gd (nI i + 4) L (sy_gd (nI i + 5) L (sy_bd (m7_copy (xs (sy_ix (nI i + 1))) (xs (sy_ix (nI i + 2))) (xs (sy_ix (nI i + 3))) (xs (sy_ix (nI i + 4))) (xs (sy_ix (nI i + 5))) σ2) (fun r4 σ4 => if r2 = r4 then (K (nI i + 6) σ4) else (sy_zg 0 (some (0, σ4))))))))))))))) = some (1, σ') := by
  simp (disch := omega) only [nI_1, nI_p2, nI_p3, nI_p4, nI_p5, nI_p6, gd_nI, sy_ix, ix_nI]
  exact law_st hM (cl_copy hT hC _ _ _ _ _) (fun s hs => md_copy hT hs _ _ _ _ _) (fun s c m => hK s _ (an_copy_ok hT _ _ _ _ _) c m)
theorem law_write {L i : Nat} {xs : Nat → Int32} {σ : St} {T : Td} {K : Int32 → St → Option (Int32 × St)} (hi : i + 6 ≤ L) (hL : L ≤ 3072) (hT : okT T) (hC : isCT σ T) (hM : isMT σ T) (hK : lwK K i) : ∃ σ', sy_gd (nI i + 1) L (sy_bd (m6_write (xs (sy_ix (nI i + 1))) σ) (fun r2 σ2 => sy_gd (nI i + 1) L (sy_bd (m7_write (xs (sy_ix (nI i + 1))) σ2) (fun r4 σ4 => if r2 = r4 then (K (nI i + 6) σ4) else (sy_zg 0 (some (0, σ4))))))) = some (1, σ') := by
  simp (disch := omega) only [nI_1, nI_p2, nI_p3, nI_p4, nI_p5, nI_p6, gd_nI, sy_ix, ix_nI]
  exact law_st hM (cl_write hT hC _) (fun s hs => md_write hT hs _) (fun s c m => hK s _ (an_write_ok hT _) c m)
theorem law_count {L i : Nat} {xs : Nat → Int32} {σ : St} {T : Td} {K : Int32 → St → Option (Int32 × St)} (hi : i + 6 ≤ L) (hL : L ≤ 3072) (hT : okT T) (hC : isCT σ T) (hM : isMT σ T) (hK : lwK K i) : ∃ σ', sy_gd (nI i + 1) L (sy_bd (m6_count (xs (sy_ix (nI i + 1))) σ) (fun r2 σ2 => sy_gd (nI i + 1) L (sy_bd (m7_count (xs (sy_ix (nI i + 1))) σ2) (fun r4 σ4 => if r2 = r4 then (K (nI i + 6) σ4) else (sy_zg 0 (some (0, σ4))))))) = some (1, σ') := by
  simp (disch := omega) only [nI_1, nI_p2, nI_p3, nI_p4, nI_p5, nI_p6, gd_nI, sy_ix, ix_nI]
  exact law_st hM (cl_count hT hC _) (fun s hs => md_count hT hs _) (fun s c m => hK s _ hT c m)
theorem law_digest {L i : Nat} {xs : Nat → Int32} {σ : St} {T : Td} {K : Int32 → St → Option (Int32 × St)} (hi : i + 6 ≤ L) (hL : L ≤ 3072) (hT : okT T) (hC : isCT σ T) (hM : isMT σ T) (hK : lwK K i) : ∃ σ', sy_bd (m6_digest σ) (fun r2 σ2 => sy_bd (m7_digest σ2) (fun r4 σ4 => if lg_cmp r2 r4 = 0 then (K (nI i + 6) σ4) else (sy_zg 0 (some (0, σ4))))) = some (1, σ') := by
  simp (disch := omega) only [nI_1, nI_p2, nI_p3, nI_p4, nI_p5, nI_p6, gd_nI, sy_ix, ix_nI]
  exact law_sL hM (cl_digest hT hC) (fun s hs => ok_mono (md_digest hT hs) (fun y s' g => ⟨g.1, g.2.1, g.2.2.1⟩)) (fun s c m => hK s _ hT c m)
theorem law_one {L i n : Nat} {xs : Nat → Int32} {σ : St} {T : Td} (hi : i + 6 ≤ L) (hL : L ≤ 3072) (hT : okT T) (hC : isCT σ T) (hM : isMT σ T) (hK : lwK (ml_law_L18 L xs n) i) : ∃ σ', ml_law_L18 L xs (n + 1) (nI i) σ = some (1, σ') := by
  show ∃ σ', ml_law_L18b L xs (ml_law_L18 L xs n) (nI i) σ = some (1, σ')
  unfold ml_law_L18b
  have h6 : ¬ (nI L - 6 < nI i) := fun q => by
    have q1 := i32_lt.mp q
    rw [show nI L - 6 = nI L - nI 6 from rfl, pk_sub_toInt (by omega) (by omega), nI_toInt (by omega)] at q1
    omega
  rw [if_neg h6, gd_nI (by omega) (by omega), show sy_ix (nI i) = i from nI_clamp (by omega)]
  obtain ⟨w, hw, ew⟩ := pk_andE (xs i) (m := 63) 6 (by decide)
  rw [ew]
  by_cases c : w < 36
  · rw [sw_nI (by show w < 36; exact c) (by omega)]
    rcases (show w = 0 ∨ w = 1 ∨ w = 2 ∨ w = 3 ∨ w = 4 ∨ w = 5 ∨ w = 6 ∨ w = 7 ∨ w = 8 ∨ w = 9 ∨ w = 10 ∨ w = 11 ∨ w = 12 ∨ w = 13 ∨ w = 14 ∨ w = 15 ∨ w = 16 ∨ w = 17 ∨ w = 18 ∨ w = 19 ∨ w = 20 ∨ w = 21 ∨ w = 22 ∨ w = 23 ∨ w = 24 ∨ w = 25 ∨ w = 26 ∨ w = 27 ∨ w = 28 ∨ w = 29 ∨ w = 30 ∨ w = 31 ∨ w = 32 ∨ w = 33 ∨ w = 34 ∨ w = 35 by omega) with rfl | rfl | rfl | rfl | rfl | rfl | rfl | rfl | rfl | rfl | rfl | rfl | rfl | rfl | rfl | rfl | rfl | rfl | rfl | rfl | rfl | rfl | rfl | rfl | rfl | rfl | rfl | rfl | rfl | rfl | rfl | rfl | rfl | rfl | rfl | rfl
    · exact law_type (xs := xs) hi hL hT hC hM hK
    · exact law_wipe (xs := xs) hi hL hT hC hM hK
    · exact law_undo (xs := xs) hi hL hT hC hM hK
    · exact law_fault (xs := xs) hi hL hT hC hM hK
    · exact law_player (xs := xs) hi hL hT hC hM hK
    · exact law_note (xs := xs) hi hL hT hC hM hK
    · exact law_bag (xs := xs) hi hL hT hC hM hK
    · exact law_event (xs := xs) hi hL hT hC hM hK
    · exact law_back (xs := xs) hi hL hT hC hM hK
    · exact law_read (xs := xs) hi hL hT hC hM hK
    · exact law_at (xs := xs) hi hL hT hC hM hK
    · exact law_heard (xs := xs) hi hL hT hC hM hK
    · exact law_takes (xs := xs) hi hL hT hC hM hK
    · exact law_sum (xs := xs) hi hL hT hC hM hK
    · exact law_flat (xs := xs) hi hL hT hC hM hK
    · exact law_silent (xs := xs) hi hL hT hC hM hK
    · exact law_greedy (xs := xs) hi hL hT hC hM hK
    · exact law_fill (xs := xs) hi hL hT hC hM hK
    · exact law_swap (xs := xs) hi hL hT hC hM hK
    · exact law_hold (xs := xs) hi hL hT hC hM hK
    · exact law_spare (xs := xs) hi hL hT hC hM hK
    · exact law_hear (xs := xs) hi hL hT hC hM hK
    · exact law_forget (xs := xs) hi hL hT hC hM hK
    · exact law_never (xs := xs) hi hL hT hC hM hK
    · exact law_was (xs := xs) hi hL hT hC hM hK
    · exact law_ask (xs := xs) hi hL hT hC hM hK
    · exact law_chance (xs := xs) hi hL hT hC hM hK
    · exact law_years (xs := xs) hi hL hT hC hM hK
    · exact law_sheet (xs := xs) hi hL hT hC hM hK
    · exact law_lose (xs := xs) hi hL hT hC hM hK
    · exact law_lay (xs := xs) hi hL hT hC hM hK
    · exact law_get (xs := xs) hi hL hT hC hM hK
    · exact law_copy (xs := xs) hi hL hT hC hM hK
    · exact law_write (xs := xs) hi hL hT hC hM hK
    · exact law_count (xs := xs) hi hL hT hC hM hK
    · exact law_digest (xs := xs) hi hL hT hC hM hK
  · rw [sw_out (fun q => by
      have q1 := q.2
      have q2 : nI w ≤ nI 35 := q1
      rw [nI_leI (by omega) (by omega)] at q2
      omega) (by show 0 < 36 ∧ 36 < 2 ^ 31; decide), nI_p6]
    exact hK σ T hT hC hM
theorem law_loop {L : Nat} {xs : Nat → Int32} (hL : L ≤ 3072) : ∀ (n i : Nat), L + 6 ≤ i + 6 * n → i ≤ L → ∀ (σ : St) (T : Td), okT T → isCT σ T → isMT σ T → ∃ σ', ml_law_L18 L xs n (nI i) σ = some (1, σ') := by
  intro n
  induction n with
  | zero => intro i h1 h2; omega
  | succ n ih =>
    intro i h1 h2 σ T hT hC hM
    by_cases c : i + 6 ≤ L
    · exact law_one c hL hT hC hM (fun s T' a b d => ih (i + 6) (by omega) c s T' a b d)
    · refine ⟨σ, ?_⟩
      show ml_law_L18b L xs (ml_law_L18 L xs n) (nI i) σ = some (1, σ)
      unfold ml_law_L18b
      rw [if_pos (i32_lt.mpr (by rw [show nI L - 6 = nI L - nI 6 from rfl, pk_sub_toInt (by omega) (by omega), nI_toInt (by omega)]; omega)), zg_1]
theorem mL_law_one {L : Nat} {xs : Nat → Int32} {σ : St} {T : Td} (hL : L ≤ 3072) (hT : okT T) (hC : isCT σ T) (hM : isMT σ T) : ∃ σ', mL_law L xs σ = some (1, σ') :=
  law_loop hL sy_FU 0 (by show L + 6 ≤ 0 + 6 * 1000; omega) (by omega) σ T hT hC hM
