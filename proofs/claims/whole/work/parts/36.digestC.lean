/-! ===== promise 37: all answers in one number: the class's ===== -/
abbrev mxI (h : Int64) (v : Int32) : Int64 := (31 * h) + Int32.toInt64 v
abbrev mxL (h v : Int64) : Int64 := (31 * h) + v
def dg_c (T : Td) : Nat → Int64
  | 0 => 17
  | k + 1 => mxI (dg_c T k) (an_count T (nI k))
def dg_b (T : Td) (h : Int64) : Nat → Int64
  | 0 => h
  | b + 1 => mxI (mxI (mxI (dg_b T h b) (an_at T (nI b) 0)) (an_at T (nI b) 1)) (an_at T (nI b) 2)
def dg_n (T : Td) (h : Int64) : Nat → Int64
  | 0 => h
  | i + 1 => mxI (mxI (dg_n T h i) (an_note T (nI i) 0)) (an_note T (nI i) 1)
def dg_h (T : Td) (h : Int64) : Nat → Int64
  | 0 => h
  | i + 1 => mxL (mxL (mxI (dg_h T h i) (an_heard T (nI i))) (an_chance T 5 (nI i) 0)) (an_chance T 5 (nI i) 1)
def dg_q (T : Td) (h : Int64) (k : Int32) : Int64 := mxI (mxI (mxI (mxI (mxI (mxI (mxI (mxI h (an_player T k 0)) (an_player T k 1)) (an_takes T k 0)) (an_takes T k 1)) (an_takes T k 2)) (an_was T k 0)) (an_was T k 1)) (an_ask T k)
def dg_p (T : Td) (h : Int64) : Nat → Int64
  | 0 => h
  | k + 1 => dg_q T (dg_p T h k) (nI k)
def dg_1 (T : Td) : Int64 := mxI (mxI (dg_c T 8) (an_fault T 0)) (an_fault T 1)
def dg_2 (T : Td) : Int64 := dg_h T (dg_n T (dg_b T (dg_1 T) 24) 16) (bN (sp_told T))
def dg_3 (T : Td) : Int64 := dg_p T (dg_2 T) (bP (sp_told T))
def dg_4 (T : Td) : Int64 := mxI (mxI (mxI (dg_3 T) (an_sum T 0)) (an_sum T 1)) (an_sum T 2)
def dg_5 (T : Td) : Int64 := mxI (mxI (mxI (mxI (mxI (dg_4 T) (an_flat T)) (an_silent T)) (an_greedy T)) (an_fill T 0)) (an_fill T 1)
def dg_6 (T : Td) : Int64 := mxI (mxI (mxI (dg_5 T) (an_swap T 0)) (an_swap T 1)) (an_swap T 2)
def dg_7 (T : Td) : Int64 := mxI (mxI (mxI (mxI (dg_6 T) (an_hold T 0)) (an_hold T 1)) (an_spare T (-1))) (an_spare T 0)
def an_digest (T : Td) : Int64 := mxI (mxI (mxI (dg_7 T) (sp_never T)) (an_years T 7 12 0)) (an_years T 7 12 1)
theorem cgI {σ0 σ : St} {T : Td} {h y : Int64} {x : Int32} {r : Option (Int32 × St)} {f : Int64 → St → Option (Int64 × St)} (h0 : clF σ0 σ) (hr : CL r σ x T) (k : ∀ σ1, clF σ0 σ1 → isCT σ1 T → CL (f (mxI h x) σ1) σ0 y T) : CL (sy_bd r (fun r4 σ3 => sy_bd (m6_mix h (Int32.toInt64 r4) σ3) f)) σ0 y T :=
  ok_bd hr (fun x' σ1 g => by
    obtain ⟨rfl, g1, g2⟩ := g
    exact k σ1 (h0.tr g1) g2)
theorem cgL {σ0 σ : St} {T : Td} {h y x : Int64} {r : Option (Int64 × St)} {f : Int64 → St → Option (Int64 × St)} (h0 : clF σ0 σ) (hr : CL r σ x T) (k : ∀ σ1, clF σ0 σ1 → isCT σ1 T → CL (f (mxL h x) σ1) σ0 y T) : CL (sy_bd r (fun r4 σ3 => sy_bd (m6_mix h r4 σ3) f)) σ0 y T :=
  ok_bd hr (fun x' σ1 g => by
    obtain ⟨rfl, g1, g2⟩ := g
    exact k σ1 (h0.tr g1) g2)
theorem cg_ {σ0 σ : St} {T : Td} {y x : Int64} {r : Option (Int64 × St)} {f : Int64 → St → Option (Int64 × St)} (h0 : clF σ0 σ) (hr : CL r σ x T) (k : ∀ σ1, clF σ0 σ1 → isCT σ1 T → CL (f x σ1) σ0 y T) : CL (sy_bd r f) σ0 y T :=
  ok_bd hr (fun x' σ1 g => by
    obtain ⟨rfl, g1, g2⟩ := g
    exact k σ1 (h0.tr g1) g2)
theorem m6_dg_c {σ0 : St} {T : Td} {y : Int64} {E : Int64 → St → Option (Int64 × St)} (hT : okT T) (hE : ∀ σ, clF σ0 σ → isCT σ T → CL (E (dg_c T 8) σ) σ0 y T) : ∀ (k i : Nat), i + k = 8 → ∀ n, k < n → ∀ σ, clF σ0 σ → isCT σ T → CL (m6_digest_L6 E n (dg_c T i) (nI i) σ) σ0 y T := by
  intro k
  induction k with
  | zero =>
    intro i hi n hn σ hF hC
    obtain ⟨n, rfl⟩ : ∃ m, n = m + 1 := ⟨n - 1, by omega⟩
    show CL (m6_digest_L6b _ _ _ _ σ) _ _ _
    unfold m6_digest_L6b
    rw [show i = 8 by omega, if_pos (by decide)]
    exact hE σ hF hC
  | succ k ih =>
    intro i hi n hn σ hF hC
    obtain ⟨n, rfl⟩ : ∃ m, n = m + 1 := ⟨n - 1, by omega⟩
    show CL (m6_digest_L6b _ _ _ _ σ) _ _ _
    unfold m6_digest_L6b
    rw [if_neg (show ¬ (7 : Int32) < nI i from nI_nlt (a := 7) (by omega) (by omega)), nI_1]
    exact cgI hF (cl_count hT hC _) (fun σ1 f1 c1 => ih (i + 1) (by omega) n (by omega) σ1 f1 c1)
theorem m6_dg_b {σ0 : St} {T : Td} {y h : Int64} {E : Int64 → St → Option (Int64 × St)} (hT : okT T) (hE : ∀ σ, clF σ0 σ → isCT σ T → CL (E (dg_b T h 24) σ) σ0 y T) : ∀ (k i : Nat), i + k = 24 → ∀ n, k < n → ∀ σ, clF σ0 σ → isCT σ T → CL (m6_digest_L51 E n (dg_b T h i) (nI i) σ) σ0 y T := by
  intro k
  induction k with
  | zero =>
    intro i hi n hn σ hF hC
    obtain ⟨n, rfl⟩ : ∃ m, n = m + 1 := ⟨n - 1, by omega⟩
    show CL (m6_digest_L51b _ _ _ _ σ) _ _ _
    unfold m6_digest_L51b
    rw [show i = 24 by omega, if_pos (by decide)]
    exact hE σ hF hC
  | succ k ih =>
    intro i hi n hn σ hF hC
    obtain ⟨n, rfl⟩ : ∃ m, n = m + 1 := ⟨n - 1, by omega⟩
    show CL (m6_digest_L51b _ _ _ _ σ) _ _ _
    unfold m6_digest_L51b
    rw [if_neg (show ¬ (24 : Int32) ≤ nI i from nI_ge (b := 24) (by omega) (by omega)), nI_1]
    refine cgI hF (cl_at hT hC _ _) (fun σ1 f1 c1 => ?_)
    refine cgI f1 (cl_at hT c1 _ _) (fun σ2 f2 c2 => ?_)
    exact cgI f2 (cl_at hT c2 _ _) (fun σ3 f3 c3 => ih (i + 1) (by omega) n (by omega) σ3 f3 c3)
theorem m6_dg_n {σ0 : St} {T : Td} {y h : Int64} {E : Int64 → St → Option (Int64 × St)} (hT : okT T) (hE : ∀ σ, clF σ0 σ → isCT σ T → CL (E (dg_n T h 16) σ) σ0 y T) : ∀ (k i : Nat), i + k = 16 → ∀ n, k < n → ∀ σ, clF σ0 σ → isCT σ T → CL (m6_mixNotes_L5 E n (dg_n T h i) (nI i) σ) σ0 y T := by
  intro k
  induction k with
  | zero =>
    intro i hi n hn σ hF hC
    obtain ⟨n, rfl⟩ : ∃ m, n = m + 1 := ⟨n - 1, by omega⟩
    show CL (m6_mixNotes_L5b _ _ _ _ σ) _ _ _
    unfold m6_mixNotes_L5b
    rw [show i = 16 by omega, if_pos (by decide)]
    exact hE σ hF hC
  | succ k ih =>
    intro i hi n hn σ hF hC
    obtain ⟨n, rfl⟩ : ∃ m, n = m + 1 := ⟨n - 1, by omega⟩
    show CL (m6_mixNotes_L5b _ _ _ _ σ) _ _ _
    unfold m6_mixNotes_L5b
    rw [if_neg (show ¬ (16 : Int32) ≤ nI i from nI_ge (b := 16) (by omega) (by omega)), nI_1]
    refine cgI hF (cl_note hT hC _ _) (fun σ1 f1 c1 => ?_)
    exact cgI f1 (cl_note hT c1 _ _) (fun σ2 f2 c2 => ih (i + 1) (by omega) n (by omega) σ2 f2 c2)
theorem m6_dg_h {σ0 : St} {T : Td} {y h : Int64} {N : Nat} {E : Int64 → St → Option (Int64 × St)} (hT : okT T) (hN : N ≤ 16) (eN : bN (sp_told T) = N) (hE : ∀ σ, clF σ0 σ → isCT σ T → CL (E (dg_h T h N) σ) σ0 y T) : ∀ (k i : Nat), i + k = N → ∀ n, k < n → ∀ σ, clF σ0 σ → isCT σ T → CL (m6_mixNotes_L45 E n (dg_h T h i) (nI i) σ) σ0 y T := by
  intro k
  induction k with
  | zero =>
    intro i hi n hn σ hF hC
    obtain ⟨n, rfl⟩ : ∃ m, n = m + 1 := ⟨n - 1, by omega⟩
    show CL (m6_mixNotes_L45b _ _ _ _ σ) _ _ _
    unfold m6_mixNotes_L45b
    rw [cs_N hC.1, eN, show i = N by omega, if_pos (nI_le (by omega) (by omega))]
    exact hE σ hF hC
  | succ k ih =>
    intro i hi n hn σ hF hC
    obtain ⟨n, rfl⟩ : ∃ m, n = m + 1 := ⟨n - 1, by omega⟩
    show CL (m6_mixNotes_L45b _ _ _ _ σ) _ _ _
    unfold m6_mixNotes_L45b
    rw [cs_N hC.1, eN, if_neg (nI_ge (by omega) (by omega)), nI_1]
    refine cgI hF (cl_heard hT hC _) (fun σ1 f1 c1 => ?_)
    refine cgL f1 (cl_chance hT c1 _ _ _) (fun σ2 f2 c2 => ?_)
    exact cgL f2 (cl_chance hT c2 _ _ _) (fun σ3 f3 c3 => ih (i + 1) (by omega) n (by omega) σ3 f3 c3)
theorem m6_dg_p {σ0 : St} {T : Td} {y h : Int64} {P : Nat} {E : Int64 → St → Option (Int64 × St)} (hT : okT T) (hP : P ≤ 11) (eP : bP (sp_told T) = P) (hE : ∀ σ, clF σ0 σ → isCT σ T → CL (E (dg_p T h P) σ) σ0 y T) : ∀ (k i : Nat), i + k = P → ∀ n, k < n → ∀ σ, clF σ0 σ → isCT σ T → CL (m6_mixPlayers_L5 E n (dg_p T h i) (nI i) σ) σ0 y T := by
  intro k
  induction k with
  | zero =>
    intro i hi n hn σ hF hC
    obtain ⟨n, rfl⟩ : ∃ m, n = m + 1 := ⟨n - 1, by omega⟩
    show CL (m6_mixPlayers_L5b _ _ _ _ σ) _ _ _
    unfold m6_mixPlayers_L5b
    rw [cs_P hC.1, eP, show i = P by omega, if_pos (nI_le (by omega) (by omega))]
    exact hE σ hF hC
  | succ k ih =>
    intro i hi n hn σ hF hC
    obtain ⟨n, rfl⟩ : ∃ m, n = m + 1 := ⟨n - 1, by omega⟩
    show CL (m6_mixPlayers_L5b _ _ _ _ σ) _ _ _
    unfold m6_mixPlayers_L5b
    rw [cs_P hC.1, eP, if_neg (nI_ge (by omega) (by omega)), nI_1]
    refine cgI hF (cl_player hT hC _ _) (fun σ1 f1 c1 => ?_)
    refine cgI f1 (cl_player hT c1 _ _) (fun σ2 f2 c2 => ?_)
    refine cgI f2 (cl_takes hT c2 _ _) (fun σ3 f3 c3 => ?_)
    refine cgI f3 (cl_takes hT c3 _ _) (fun σ4 f4 c4 => ?_)
    refine cgI f4 (cl_takes hT c4 _ _) (fun σ5 f5 c5 => ?_)
    refine cgI f5 (cl_was hT c5 _ _) (fun σ6 f6 c6 => ?_)
    refine cgI f6 (cl_was hT c6 _ _) (fun σ7 f7 c7 => ?_)
    exact cgI f7 (cl_ask hT c7 _) (fun σ8 f8 c8 => ih (i + 1) (by omega) n (by omega) σ8 f8 c8)
theorem cl_mixNotes {σ : St} {T : Td} (hT : okT T) (hC : isCT σ T) (h : Int64) : CL (m6_mixNotes h σ) σ (dg_h T (dg_n T h 16) (bN (sp_told T))) T := by
  have hN := (okB_told hT).2.1
  unfold m6_mixNotes
  refine m6_dg_n (h := h) hT (fun σ1 f1 c1 => ?_) 16 0 (by omega) sy_FU (by show _ < 1000; omega) σ clF.rf hC
  exact m6_dg_h (h := dg_n T h 16) hT hN rfl (fun σ2 f2 c2 => ok_some ⟨rfl, f2, c2⟩) _ 0 (Nat.zero_add _) sy_FU (by show _ < 1000; omega) σ1 f1 c1
theorem cl_mixPlayers {σ : St} {T : Td} (hT : okT T) (hC : isCT σ T) (h : Int64) : CL (m6_mixPlayers h σ) σ (dg_p T h (bP (sp_told T))) T := by
  have hP := (okB_told hT).1
  unfold m6_mixPlayers
  exact m6_dg_p (h := h) hT hP rfl (fun σ2 f2 c2 => ok_some ⟨rfl, f2, c2⟩) _ 0 (Nat.zero_add _) sy_FU (by show _ < 1000; omega) σ clF.rf hC
theorem cl_digest {σ : St} {T : Td} (hT : okT T) (hC : isCT σ T) : CL (m6_digest σ) σ (an_digest T) T := by
  unfold m6_digest
  refine m6_dg_c hT (fun σ1 f1 c1 => ?_) 8 0 (by omega) sy_FU (by show _ < 1000; omega) σ clF.rf hC
  refine cgI f1 (cl_fault hT c1 0) (fun σ2 f2 c2 => ?_)
  refine cgI f2 (cl_fault hT c2 1) (fun σ3 f3 c3 => ?_)
  refine m6_dg_b (h := dg_1 T) hT (fun σ4 f4 c4 => ?_) 24 0 (by omega) sy_FU (by show _ < 1000; omega) σ3 f3 c3
  refine cg_ f4 (cl_mixNotes hT c4 _) (fun σ5 f5 c5 => ?_)
  refine cg_ f5 (cl_mixPlayers hT c5 _) (fun σ6 f6 c6 => ?_)
  refine cgI f6 (cl_sum hT c6 _) (fun σ7 f7 c7 => ?_)
  refine cgI f7 (cl_sum hT c7 _) (fun σ8 f8 c8 => ?_)
  refine cgI f8 (cl_sum hT c8 _) (fun σ9 f9 c9 => ?_)
  refine cgI f9 (cl_flat hT c9) (fun σ10 f10 c10 => ?_)
  refine cgI f10 (cl_silent hT c10) (fun σ11 f11 c11 => ?_)
  refine cgI f11 (cl_greedy hT c11) (fun σ12 f12 c12 => ?_)
  refine cgI f12 (cl_fill hT c12 _) (fun σ13 f13 c13 => ?_)
  refine cgI f13 (cl_fill hT c13 _) (fun σ14 f14 c14 => ?_)
  refine cgI f14 (cl_swap hT c14 _) (fun σ15 f15 c15 => ?_)
  refine cgI f15 (cl_swap hT c15 _) (fun σ16 f16 c16 => ?_)
  refine cgI f16 (cl_swap hT c16 _) (fun σ17 f17 c17 => ?_)
  refine cgI f17 (cl_hold hT c17 _) (fun σ18 f18 c18 => ?_)
  refine cgI f18 (cl_hold hT c18 _) (fun σ19 f19 c19 => ?_)
  refine cgI f19 (cl_spare hT c19 _) (fun σ20 f20 c20 => ?_)
  refine cgI f20 (cl_spare hT c20 _) (fun σ21 f21 c21 => ?_)
  refine cgI f21 (cl_never hT c21) (fun σ22 f22 c22 => ?_)
  refine cgI f22 (cl_years hT c22 _ _ _) (fun σ23 f23 c23 => ?_)
  exact cgI f23 (cl_years hT c23 _ _ _) (fun σ24 f24 c24 => ok_some ⟨rfl, f24, c24⟩)
