/-! ===== promises 11 and 34 ===== -/
abbrev okC (T : Td) (s : Nat) (i : Int32) (t : Nat) (j n : Int32) : Prop := (0 ≤ i ∧ 0 ≤ n ∧ i.toInt + n.toInt ≤ tS T s) ∧ (0 ≤ j ∧ 0 ≤ n ∧ j.toInt + n.toInt ≤ tS T t)
def an_copy (T : Td) (s i t j n : Int32) : Int32 × Td := if (0 ≤ s ∧ s ≤ 3) ∧ (0 ≤ t ∧ t ≤ 3) then (if 0 ≤ tF T (sy_ix s) ∧ 0 ≤ tF T (sy_ix t) then (if tF T (sy_ix s) = tF T (sy_ix t) then (if okC T (sy_ix s) i (sy_ix t) j n then (1, t_sx T (tF T) (tS T) (va_up (tI T) (sy_ix t) (va_cpy (tI T (sy_ix s)) (tI T (sy_ix t)) (sy_ix i) (sy_ix j) (sy_ix n))) (tL T)) else (-10 - 2, t_lat T 2)) else (-10 - 4, t_lat T 4)) else (-10 - 1, t_lat T 1)) else (-2, T)
theorem m4_holds_eq {σ : St} {c z : Nat} (hz : z ≤ 60) (h : σ c 2 = nI z) (i n : Int32) : m4_holds c i n σ = some (b01 (0 ≤ i ∧ 0 ≤ n ∧ i.toInt + n.toInt ≤ z), σ) := by
  have e0 : (0 : Int32).toInt = 0 := by decide
  unfold m4_holds
  rw [h]
  by_cases c1 : i < 0
  · rw [if_pos c1, zg_0]; unfold b01
    rw [if_neg (fun q => by have q1 := i32_le.mp q.1; have q2 := i32_lt.mp c1; omega)]
  · rw [if_neg c1]
    by_cases c2 : n < 0
    · rw [if_pos c2, zg_0]; unfold b01
      rw [if_neg (fun q => by have q1 := i32_le.mp q.2.1; have q2 := i32_lt.mp c2; omega)]
    · rw [if_neg c2]
      obtain ⟨i', hi, rfl⟩ := nI_of c1
      obtain ⟨n', hn, rfl⟩ := nI_of c2
      have e : (nI z - nI n').toInt = (z : Int) - n' := by
        rw [Int32.toInt_sub, nI_toInt (by omega), nI_toInt hn]
        exact Int.bmod_eq_of_le (by omega) (by omega)
      by_cases c3 : nI z - nI n' < nI i'
      · have q := i32_lt.mp c3
        rw [e, nI_toInt hi] at q
        rw [if_pos c3, zg_0]; unfold b01
        rw [if_neg (fun w => by have := w.2.2; rw [nI_toInt hi, nI_toInt hn] at this; omega)]
      · have q := mt i32_lt.mpr c3
        rw [e, nI_toInt hi] at q
        rw [if_neg c3, zg_1]; unfold b01
        rw [if_pos ⟨nI_pos' hi, nI_pos' hn, by rw [nI_toInt hi, nI_toInt hn]; omega⟩]
theorem cl_copy {σ : St} {T : Td} (hT : okT T) (hC : isCT σ T) (s i t j n : Int32) : CL (m6_copy s i t j n σ) σ (an_copy T s i t j n).1 (an_copy T s i t j n).2 := by
  unfold m6_copy an_copy
  rw [m6_within_eq, bd_some, b01_0]
  by_cases c1 : 0 ≤ s ∧ s ≤ 3
  · rw [if_pos c1, m6_within_eq, bd_some, b01_0]
    by_cases c2 : 0 ≤ t ∧ t ≤ 3
    · rw [if_pos c2, if_pos (And.intro c1 c2)]
      obtain ⟨s', hs', rfl⟩ := nI_rng (n := 3) (by omega) c1
      obtain ⟨t', ht', rfl⟩ := nI_rng (n := 3) (by omega) c2
      rw [show sy_ix (nI s') = s' from nI_clamp (by omega), show sy_ix (nI t') = t' from nI_clamp (by omega), gd_nI (by omega) (by omega), gd_nI (by omega) (by omega)]
      have hs := hC.1.2.2.2.2.1 s' (by omega)
      have ht := hC.1.2.2.2.2.1 t' (by omega)
      have s60 := (hT.2.2.2.2.2.2 s' (by omega)).1
      have t60 := (hT.2.2.2.2.2.2 t' (by omega)).1
      by_cases d1 : 0 ≤ tF T s'
      · rw [if_pos ((sh_lost hs).mpr d1)]
        by_cases d2 : 0 ≤ tF T t'
        · rw [if_pos ((sh_lost ht).mpr d2), if_pos (And.intro d1 d2), sh_form d1 hs rfl, sh_form d2 ht rfl]
          by_cases d3 : tF T s' = tF T t'
          · rw [if_pos d3, if_pos d3, m4_holds_eq s60 hs.2.1, bd_some, b01_0]
            by_cases d4 : 0 ≤ i ∧ 0 ≤ n ∧ i.toInt + n.toInt ≤ tS T s'
            · rw [if_pos d4, m4_holds_eq t60 ht.2.1, bd_some, b01_0]
              by_cases d5 : 0 ≤ j ∧ 0 ≤ n ∧ j.toInt + n.toInt ≤ tS T t'
              · rw [if_pos d5, if_pos (And.intro d4 d5)]
                have np : ∀ x : Int32, 0 ≤ x → ∃ y : Nat, y < 2 ^ 31 ∧ x = nI y := fun x hx => nI_of (fun q => by have q1 := i32_le.mp hx; have q2 := i32_lt.mp q; omega)
                obtain ⟨i', hi, rfl⟩ := np i d4.1
                obtain ⟨j', hj, rfl⟩ := np j d5.1
                obtain ⟨n', hn, rfl⟩ := np n d4.2.1
                have d4' := d4.2.2
                have d5' := d5.2.2
                rw [nI_toInt hi, nI_toInt hn] at d4'
                rw [nI_toInt hj, nI_toInt hn] at d5'
                unfold sy_cg
                simp (disch := omega) only [ix_nI, sy_ix]
                rw [if_neg (by
                  rintro (q | q | q | q | q)
                  · exact nI_pos hi q
                  · exact nI_pos hj q
                  · exact nI_pos hn q
                  · omega
                  · omega), lt_eq]
                unfold sy_cp
                simp (disch := omega) only [ix_nI]
                refine ok_some ⟨rfl, fun q hq => sy_up_n (by omega), ct_sx hC (fun k _ p => sy_up_n (by omega)) (fun q hq => by rw [sy_up_n (by omega)]) (fun q hq => ?_) (by rw [sy_up_n (by omega)]; exact hC.1.2.2.2.2.2)⟩
                have old := hC.1.2.2.2.2.1 q hq
                refine ⟨?_, ?_, fun k hk => ?_⟩
                · rw [sy_up_n (by omega)]; exact old.1
                · rw [sy_up_n (by omega)]; exact old.2.1
                · show _ = va_up (tI T) t' (va_cpy (tI T s') (tI T t') i' j' n') q k
                  have hk : k < tS T q := hk
                  unfold va_up
                  by_cases e : q = t'
                  · subst e
                    rw [if_pos rfl, show 54 + 2 * q = 53 + 2 * q + 1 by omega, sy_up_s]
                    unfold va_cpy
                    by_cases z : j' ≤ k ∧ k < j' + n'
                    · rw [if_pos z, if_pos z, show 53 + 2 * s' + 1 = 54 + 2 * s' by omega]
                      exact hs.2.2 _ (by omega)
                    · rw [if_neg z, if_neg z, show 53 + 2 * q + 1 = 54 + 2 * q by omega]
                      exact old.2.2 k hk
                  · rw [if_neg e, sy_up_n (by omega)]
                    exact old.2.2 k hk
              · rw [if_neg d5, if_neg (fun q => d5 q.2)]
                exact cl_pass (cl_found hC 2)
            · rw [if_neg d4, if_neg (fun q => d4 q.1)]
              exact cl_pass (cl_found hC 2)
          · rw [if_neg d3, if_neg d3]
            exact cl_pass (cl_found hC 4)
        · rw [if_neg (fun q => d2 ((sh_lost ht).mp q)), if_neg (fun q => d2 q.2)]
          exact cl_pass (cl_found hC 1)
      · rw [if_neg (fun q => d1 ((sh_lost hs).mp q)), if_neg (fun q => d1 q.1)]
        exact cl_pass (cl_found hC 1)
    · rw [if_neg c2, if_neg (fun q => c2 q.2)]
      exact ok_some ⟨rfl, clF.rf, hC⟩
  · rw [if_neg c1, if_neg (fun q => c1 q.1)]
    exact ok_some ⟨rfl, clF.rf, hC⟩
theorem m7_copy_out {σ0 : St} {s i t j n : Nat} {Q : Int32 → St → Prop} (hs : s < 4) (hn : i + n ≤ 60) (E : Int32 → Int32 → Int32 → St → Option (Int32 × St)) (hE : ∀ σ, (∀ k, k ≠ 65 → σ k = σ0 k) → (∀ a, a < n → σ 65 a = σ0 64 (60 * s + i + a)) → Ok (E (nI t) (nI j) (nI n) σ) Q) : ∀ (k a : Nat), a + k = n → ∀ f, k < f → ∀ σ, (∀ k, k ≠ 65 → σ k = σ0 k) → (∀ b, b < a → σ 65 b = σ0 64 (60 * s + i + b)) → Ok (m7_copy_L120 E f (nI s) (nI i) (nI t) (nI j) (nI n) (nI a) σ) Q := by
  intro k
  induction k with
  | zero =>
    intro a ha f hf σ hF h
    obtain ⟨f, rfl⟩ : ∃ m, f = m + 1 := ⟨f - 1, by omega⟩
    show Ok (m7_copy_L120b _ _ _ _ _ _ _ _ σ) Q
    unfold m7_copy_L120b
    rw [if_pos (nI_le (by omega) (by omega))]
    rw [show a = n by omega] at h
    exact hE σ hF h
  | succ k ih =>
    intro a ha f hf σ hF h
    obtain ⟨f, rfl⟩ : ∃ m, f = m + 1 := ⟨f - 1, by omega⟩
    show Ok (m7_copy_L120b _ _ _ _ _ _ _ _ σ) Q
    unfold m7_copy_L120b
    rw [if_neg (nI_ge (by omega) (by omega))]
    simp (disch := omega) only [nI_60, nI_add, nI_1, gd_nI, sy_ix, ix_nI, lt_eq]
    refine ih (a + 1) (by omega) f (by omega) _ (fun q hq => by rw [sf_n hq]; exact hF q hq) (fun b hb => ?_)
    by_cases e : b = a
    · subst e; rw [sf_ss, hF 64 (by omega)]
    · rw [sf_sn e]; exact h b (by omega)
theorem m7_copy_in {σ0 : St} {t j n : Nat} {Q : Int32 → St → Prop} (ht : t < 4) (hn : j + n ≤ 60) (hE : ∀ σ, (∀ k, k ≠ 64 → σ k = σ0 k) → (∀ q, σ 64 q = if 60 * t + j ≤ q ∧ q < 60 * t + j + n then σ0 65 (q - (60 * t + j)) else σ0 64 q) → Ok (some ((1 : Int32), σ)) Q) : ∀ (k a : Nat), a + k = n → ∀ f, k < f → ∀ σ, (∀ k, k ≠ 64 → σ k = σ0 k) → (∀ q, σ 64 q = if 60 * t + j ≤ q ∧ q < 60 * t + j + a then σ0 65 (q - (60 * t + j)) else σ0 64 q) → Ok (m7_copy_L157 f (nI t) (nI j) (nI n) (nI a) σ) Q := by
  intro k
  induction k with
  | zero =>
    intro a ha f hf σ hF h
    obtain ⟨f, rfl⟩ : ∃ m, f = m + 1 := ⟨f - 1, by omega⟩
    show Ok (m7_copy_L157b _ _ _ _ _ σ) Q
    unfold m7_copy_L157b
    rw [if_pos (nI_le (by omega) (by omega))]
    rw [show a = n by omega] at h
    exact hE σ hF h
  | succ k ih =>
    intro a ha f hf σ hF h
    obtain ⟨f, rfl⟩ : ∃ m, f = m + 1 := ⟨f - 1, by omega⟩
    show Ok (m7_copy_L157b _ _ _ _ _ σ) Q
    unfold m7_copy_L157b
    rw [if_neg (nI_ge (by omega) (by omega))]
    simp (disch := omega) only [nI_60, nI_add, nI_1, gd_nI, sy_ix, ix_nI, lt_eq]
    refine ih (a + 1) (by omega) f (by omega) _ (fun q hq => by rw [sf_n hq]; exact hF q hq) (fun q => ?_)
    by_cases e : q = 60 * t + j + a
    · subst e; rw [sf_ss, hF 65 (by omega), if_pos (by omega), show 60 * t + j + a - (60 * t + j) = a by omega]
    · rw [sf_sn e, h q]
      by_cases z : 60 * t + j ≤ q ∧ q < 60 * t + j + a
      · rw [if_pos z, if_pos (by omega)]
      · rw [if_neg z, if_neg (by omega)]
theorem add64 {a b : Nat} (ha : a < 2 ^ 31) (hb : b < 2 ^ 31) : (nI a).toInt64 + (nI b).toInt64 = lN (a + b) := by rw [nI_l ha, nI_l hb, lN_add]
theorem md_copy {σ : St} {T : Td} (hT : okT T) (hM : isMT σ T) (s i t j n : Int32) : MD (m7_copy s i t j n σ) σ (an_copy T s i t j n).1 (an_copy T s i t j n).2 := by
  have e0 : (0 : Int32).toInt = 0 := by decide
  unfold m7_copy an_copy
  rw [m7_isSheet_eq, bd_some, b01_0]
  by_cases c1 : 0 ≤ s ∧ s ≤ 3
  · rw [if_pos c1, m7_isSheet_eq, bd_some, b01_0]
    by_cases c2 : 0 ≤ t ∧ t ≤ 3
    · rw [if_pos c2, if_pos (And.intro c1 c2)]
      obtain ⟨s', hs', rfl⟩ := nI_rng (n := 3) (by omega) c1
      obtain ⟨t', ht', rfl⟩ := nI_rng (n := 3) (by omega) c2
      obtain ⟨s1, s2, s3⟩ := hM.2.2.2.1 s' (by omega)
      obtain ⟨t1, t2, t3⟩ := hM.2.2.2.1 t' (by omega)
      have s60 := (hT.2.2.2.2.2.2 s' (by omega)).1
      have t60 := (hT.2.2.2.2.2.2 t' (by omega)).1
      rw [show sy_ix (nI s') = s' from nI_clamp (by omega), show sy_ix (nI t') = t' from nI_clamp (by omega)]
      simp (disch := omega) only [gd_nI, s1, s2, t1, t2]
      by_cases d1 : 0 ≤ tF T s'
      · rw [if_neg (fun q => by have q1 := i32_le.mp d1; have q2 := i32_lt.mp q; omega)]
        by_cases d2 : 0 ≤ tF T t'
        · rw [if_pos d2, if_pos (And.intro d1 d2)]
          by_cases d3 : tF T s' = tF T t'
          · rw [if_pos d3, if_pos d3]
            by_cases n1 : i < 0
            · rw [if_pos n1, if_neg (fun q => by have q1 := i32_le.mp q.1.1; have q2 := i32_lt.mp n1; omega)]
              exact md_pass (md_finds hM 2)
            · rw [if_neg n1]
              by_cases n2 : j < 0
              · rw [if_pos n2, if_neg (fun q => by have q1 := i32_le.mp q.2.1; have q2 := i32_lt.mp n2; omega)]
                exact md_pass (md_finds hM 2)
              · rw [if_neg n2]
                by_cases n3 : n < 0
                · rw [if_pos n3, if_neg (fun q => by have q1 := i32_le.mp q.1.2.1; have q2 := i32_lt.mp n3; omega)]
                  exact md_pass (md_finds hM 2)
                · rw [if_neg n3]
                  obtain ⟨i', hi, rfl⟩ := nI_of n1
                  obtain ⟨j', hj, rfl⟩ := nI_of n2
                  obtain ⟨n', hn, rfl⟩ := nI_of n3
                  simp (disch := omega) only [nI_l, lN_add, lg_pos, pk_lLT]
                  by_cases d4 : tS T s' < i' + n'
                  · rw [if_pos d4, if_neg (fun q => by have := q.1.2.2; rw [nI_toInt hi, nI_toInt hn] at this; omega)]
                    exact md_pass (md_finds hM 2)
                  · rw [if_neg d4]
                    have hlg : lg_cmp (lN (j' + n')) (lN (tS T t')) ≤ 0 ↔ ¬ tS T t' < j' + n' := by
                      rw [← pk_lLT (a := tS T t') (b := j' + n') (by omega) (by omega), ← lg_pos]
                      exact ⟨fun q w => by have q1 := i32_le.mp q; have q2 := i32_lt.mp w; omega, fun q => i32_le.mpr (by have := mt i32_lt.mpr q; omega)⟩
                    by_cases d5 : tS T t' < j' + n'
                    · rw [if_neg (fun q => hlg.mp q d5), if_neg (fun q => by have := q.2.2.2; rw [nI_toInt hj, nI_toInt hn] at this; omega)]
                      exact md_pass (md_finds hM 2)
                    · rw [if_pos (hlg.mpr d5), if_pos (show okC T s' (nI i') t' (nI j') (nI n') from ⟨⟨nI_pos' hi, nI_pos' hn, by rw [nI_toInt hi, nI_toInt hn]; omega⟩, nI_pos' hj, nI_pos' hn, by rw [nI_toInt hj, nI_toInt hn]; omega⟩)]
                      simp (disch := omega) only [ix_nI, sy_ix]
                      refine m7_copy_out (σ0 := σ) (by omega) (by omega) _ (fun σ1 hF1 h1 => ?_) n' 0 (by omega) sy_FU (by show _ < 1000; omega) σ (fun _ _ => rfl) (fun b hb => by omega)
                      refine m7_copy_in (σ0 := σ1) (by omega) (by omega) (fun σ2 hF2 h2 => ?_) n' 0 (by omega) sy_FU (by show _ < 1000; omega) σ1 (fun _ _ => rfl) (fun q => by rw [if_neg (by omega)])
                      have gF : ∀ k, k ≠ 64 → k ≠ 65 → σ2 k = σ k := fun k p q => by rw [hF2 k p, hF1 k q]
                      refine ok_some ⟨rfl, fun q hq => gF q (by omega) (by omega), mt_sx hM (fun k _ p => gF k (by omega) (by omega)) (fun q hq => by rw [gF 61 (by omega) (by omega)]) (fun q hq => ?_) (by rw [gF 61 (by omega) (by omega)]; exact hM.2.2.2.2)⟩
                      obtain ⟨o1, o2, o3⟩ := hM.2.2.2.1 q hq
                      have q60 := (hT.2.2.2.2.2.2 q hq).1
                      refine ⟨by rw [gF 62 (by omega) (by omega)]; exact o1, by rw [gF 63 (by omega) (by omega)]; exact o2, fun k hk => ?_⟩
                      rw [h2]
                      unfold va_up
                      by_cases e : q = t'
                      · subst e
                        rw [if_pos rfl]
                        unfold va_cpy
                        by_cases z : j' ≤ k ∧ k < j' + n'
                        · rw [if_pos (by omega), if_pos z, show 60 * q + k - (60 * q + j') = k - j' by omega, h1 _ (by omega), show 60 * s' + i' + (k - j') = 60 * s' + (i' + (k - j')) by omega]
                          exact s3 _ (by omega)
                        · rw [if_neg (by omega), if_neg z, hF1 64 (by omega)]
                          exact o3 k hk
                      · rw [if_neg e, if_neg (by omega), hF1 64 (by omega)]
                        exact o3 k hk
          · rw [if_neg d3, if_neg d3]
            exact md_pass (md_finds hM 4)
        · rw [if_neg d2, if_neg (fun q => d2 q.2)]
          exact md_pass (md_finds hM 1)
      · rw [if_pos (i32_lt.mpr (by have := mt i32_le.mpr d1; omega)), if_neg (fun q => d1 q.1)]
        exact md_pass (md_finds hM 1)
    · rw [if_neg c2, if_neg (fun q => c2 q.2)]
      exact ok_some ⟨rfl, mdF.rf, hM⟩
  · rw [if_neg c1, if_neg (fun q => c1 q.1)]
    exact ok_some ⟨rfl, mdF.rf, hM⟩
theorem an_copy_ok {T : Td} (hT : okT T) (s i t j n : Int32) : okT (an_copy T s i t j n).2 := by
  unfold an_copy
  split
  · split
    · split
      · split
        · exact okT_item hT
        · exact okT_lat hT
      · exact okT_lat hT
    · exact okT_lat hT
  · exact hT
/-! reading events from a sheet -/
abbrev okR (T : Td) (s j : Nat) : Prop := 2 * j + 2 ≤ tS T s ∧ okE (tI T s (2 * j)) (tI T s (2 * j + 1)) ∧ tE T + j < 8
/-- n events more, from the sheet's items -/
def t_rdn (T : Td) (s : Nat) : Nat → Td
  | 0 => T
  | n + 1 => t_add (t_rdn T s n) (sy_ix (tI T s (2 * n))) (sy_ix (tI T s (2 * n + 1)))
theorem t_rdn_E (T : Td) (s : Nat) : ∀ n, tE (t_rdn T s n) = tE T + n
  | 0 => rfl
  | n + 1 => by show tE (t_rdn T s n) + 1 = _; rw [t_rdn_E T s n]; omega
theorem t_rdn_S (T : Td) (s : Nat) : ∀ n, tS (t_rdn T s n) = tS T ∧ tI (t_rdn T s n) = tI T ∧ tF (t_rdn T s n) = tF T
  | 0 => ⟨rfl, rfl, rfl⟩
  | n + 1 => t_rdn_S T s n
theorem okT_rd {T : Td} {s : Nat} (hT : okT T) : ∀ n, (∀ j, j < n → okR T s j) → okT (t_rdn T s n)
  | 0, _ => hT
  | n + 1, h => by
    have h1 := h n (by omega)
    obtain ⟨k, hk, e1⟩ := nI_rng (n := 2) (by omega) h1.2.1.1
    obtain ⟨b, hb, e2⟩ := nI_rng (n := 23) (by omega) h1.2.1.2
    refine okT_add ?_ ?_ (by rw [t_rdn_E]; exact h1.2.2) (okT_rd hT n (fun j hj => h j (by omega)))
    · rw [e1, show sy_ix (nI k) = k from nI_clamp (by omega)]; omega
    · rw [e2, show sy_ix (nI b) = b from nI_clamp (by omega)]; omega
/-- how many come -/
def sp_rn (T : Td) (s : Nat) : Nat → Nat
  | 0 => 0
  | n + 1 => if sp_rn T s n = n ∧ okR T s n then n + 1 else sp_rn T s n
theorem sp_rn_all {T : Td} {s : Nat} : ∀ n, (∀ j, j < n → okR T s j) → sp_rn T s n = n
  | 0, _ => rfl
  | n + 1, h => by
    unfold sp_rn
    rw [if_pos ⟨sp_rn_all n (fun j hj => h j (by omega)), h n (by omega)⟩]
theorem sp_rn_at {T : Td} {s i : Nat} (h : ∀ j, j < i → okR T s j) (hi : ¬ okR T s i) : ∀ n, i ≤ n → sp_rn T s n = i
  | 0, q => by rw [show i = 0 by omega]; rfl
  | n + 1, q => by
    by_cases e : i = n + 1
    · rw [e] at h ⊢; exact sp_rn_all _ h
    · have ih := sp_rn_at h hi n (by omega)
      unfold sp_rn
      rw [if_neg (fun z => by
        by_cases e2 : i = n
        · rw [e2] at hi; exact hi z.2
        · have := z.1; omega)]
      exact ih
theorem sp_rn_ok (T : Td) (s : Nat) : ∀ n, ∀ j, j < sp_rn T s n → okR T s j
  | 0, j, h => by simp [sp_rn] at h
  | n + 1, j, h => by
    unfold sp_rn at h
    by_cases c : sp_rn T s n = n ∧ okR T s n
    · rw [if_pos c] at h
      by_cases e : j = n
      · subst e; exact c.2
      · exact sp_rn_ok T s n j (by have := c.1; omega)
    · rw [if_neg c] at h
      exact sp_rn_ok T s n j h
def an_read (T : Td) (s : Int32) : Int32 × Td := if 0 ≤ s ∧ s ≤ 3 then (if 0 ≤ tF T (sy_ix s) then (nI (sp_rn T (sy_ix s) 9), t_rdn T (sy_ix s) (sp_rn T (sy_ix s) 9)) else (-10 - 1, t_lat T 1)) else (-2, T)
theorem an_read_ok {T : Td} (hT : okT T) (s : Int32) : okT (an_read T s).2 := by
  unfold an_read
  split
  · split
    · exact okT_rd hT _ (sp_rn_ok T _ 9)
    · exact okT_lat hT
  · exact hT
theorem m6_read_loop {T : Td} {s : Nat} {σ0 : St} {Q : Int32 → St → Prop} (hT : okT T) (hs : s < 4) (v : Int32) (E1 E2 : Int32 → St → Option (Int32 × St)) (h1 : ∀ σ, clF σ0 σ → isCS σ (t_rdn T s (sp_rn T s 9)) → Ok (E1 v σ) Q) (h2 : ∀ σ, clF σ0 σ → isCS σ (t_rdn T s (sp_rn T s 9)) → Ok (E2 v σ) Q) : ∀ (k n : Nat), n + k = 9 → ∀ f, k < f → (∀ j, j < n → okR T s j) → ∀ σ, clF σ0 σ → isCS σ (t_rdn T s n) → Ok (m6_read_L43 (53 + 2 * s) E1 E2 f v (nI (2 * n)) σ) Q := by
  have h60 := (hT.2.2.2.2.2.2 s hs).1
  have hE := hT.2.2.1
  intro k
  induction k with
  | zero =>
    intro n hn f hf hok σ _ _
    have := (hok 8 (by omega)).2.2
    omega
  | succ k ih =>
    intro n hn f hf hok σ hF hC
    obtain ⟨f, rfl⟩ : ∃ m, f = m + 1 := ⟨f - 1, by omega⟩
    obtain ⟨e1, e2, e3⟩ := t_rdn_S T s n
    have hsh := hC.2.2.2.2.1 s hs
    have hsz : σ (53 + 2 * s) 2 = nI (tS T s) := by rw [hsh.2.1, e1]
    show Ok (m6_read_L43b _ _ _ _ _ _ σ) Q
    unfold m6_read_L43b
    rw [hsz, nI_1]
    by_cases c1 : 2 * n + 2 ≤ tS T s
    · rw [if_neg (nI_ge (by omega) (by omega))]
      have i1 : σ (53 + 2 * s + 1) (2 * n) = tI T s (2 * n) := by
        have := hsh.2.2 (2 * n) (by rw [e1]; omega)
        rwa [show 54 + 2 * s = 53 + 2 * s + 1 by omega, e2] at this
      have i2 : σ (53 + 2 * s + 1) (2 * n + 1) = tI T s (2 * n + 1) := by
        have := hsh.2.2 (2 * n + 1) (by rw [e1]; omega)
        rwa [show 54 + 2 * s = 53 + 2 * s + 1 by omega, e2] at this
      simp (disch := omega) only [gd_nI, sy_ix, ix_nI, lt_eq, i1, i2]
      refine ok_bd (m0_addEvent_sp (okT_rd hT n hok) hC _ _) (fun x σ1 g => ?_)
      have g2 := g.2
      rw [t_rdn_E] at g2
      have hF1 : clF σ0 σ1 := fun q hq => by rw [g.1 q (by omega) (by omega) (by omega)]; exact hF q hq
      by_cases c2 : okR T s n
      · rw [if_pos ⟨c2.2.1, c2.2.2⟩] at g2
        obtain ⟨rfl, g3⟩ := g2
        rw [if_neg (by decide), show nI (2 * n) + 2 = nI (2 * (n + 1)) from nI_add (2 * n) 2]
        exact ih (n + 1) (by omega) f (by omega) (fun j hj => by
          by_cases e : j = n
          · subst e; exact c2
          · exact hok j (by omega)) σ1 hF1 g3
      · rw [if_neg (fun q => c2 ⟨c1, q.1, q.2⟩)] at g2
        obtain ⟨rfl, rfl⟩ := g2
        rw [if_pos rfl]
        refine h1 _ hF ?_
        rw [sp_rn_at hok c2 9 (by omega)]
        exact hC
    · rw [if_pos (nI_le (by omega) (by omega))]
      refine h2 _ hF ?_
      rw [sp_rn_at hok (fun q => c1 q.1) 9 (by omega)]
      exact hC
theorem cs_E {σ : St} {T : Td} (h : isCS σ T) : σ 5 10 = nI (tE T) := h.2.2.1.2.2.2.2.2.2.1
theorem cl_read {σ : St} {T : Td} (hT : okT T) (hC : isCT σ T) (s : Int32) : CL (m6_read s σ) σ (an_read T s).1 (an_read T s).2 := by
  unfold m6_read an_read
  rw [m6_within_eq, bd_some, b01_0]
  by_cases c1 : 0 ≤ s ∧ s ≤ 3
  · rw [if_pos c1, if_pos c1]
    obtain ⟨s', hs', rfl⟩ := nI_rng (n := 3) (by omega) c1
    rw [show sy_ix (nI s') = s' from nI_clamp (by omega), gd_nI (by omega) (by omega)]
    have hsh := hC.1.2.2.2.2.1 s' (by omega)
    by_cases d1 : 0 ≤ tF T s'
    · rw [if_pos ((sh_lost hsh).mpr d1), if_pos d1, lt_eq]
      have h10 : σ 5 10 = nI (tE T) := cs_E hC.1
      have fin : ∀ σ1, clF σ σ1 → isCS σ1 (t_rdn T s' (sp_rn T s' 9)) → Ok (sy_bd (m6_unlearn σ1) (fun _ σ15 => some (σ15 5 10 - σ 5 10, σ15))) (fun y σ' => y = nI (sp_rn T s' 9) ∧ clF σ σ' ∧ isCT σ' (t_rdn T s' (sp_rn T s' 9))) := by
        intro σ1 hF h
        refine ok_bd (cl_un (σ0 := σ) h hF) (fun _ σ2 z => ok_some ⟨?_, z.1, z.2.1⟩)
        have e : σ2 5 10 = nI (tE (t_rdn T s' (sp_rn T s' 9))) := cs_E z.2.1.1
        rw [e, h10, t_rdn_E, pk_sub (by omega)]
        congr 1
        omega
      exact m6_read_loop hT (by omega) (σ 5 10) _ _ fin fin 9 0 (by omega) sy_FU (by show _ < 1000; omega) (fun j hj => by omega) σ clF.rf hC.1
    · rw [if_neg (fun q => d1 ((sh_lost hsh).mp q)), if_neg d1]
      exact cl_pass (cl_found hC 1)
  · rw [if_neg c1, if_neg c1]
    exact ok_some ⟨rfl, clF.rf, hC⟩
theorem m7_read_loop {T : Td} {s : Nat} {σ0 : St} {Q : Int32 → St → Prop} (hT : okT T) (hs : s < 4) (E : Int32 → St → Option (Int32 × St)) (hE : ∀ σ, mdF σ0 σ → isMT σ (t_rdn T s (sp_rn T s 9)) → Ok (E (nI (sp_rn T s 9)) σ) Q) : ∀ (k n : Nat), n + k = 9 → ∀ f, k + 1 < f → (∀ j, j < n → okR T s j) → ∀ σ, mdF σ0 σ → isMT σ (t_rdn T s n) → Ok (m7_read_L29 E f (nI s) (nI n) 1 σ) Q := by
  have h60 := (hT.2.2.2.2.2.2 s hs).1
  have hE8 := hT.2.2.1
  intro k
  induction k with
  | zero =>
    intro n hn f hf hok σ _ _
    have := (hok 8 (by omega)).2.2
    omega
  | succ k ih =>
    intro n hn f hf hok σ hF hM
    obtain ⟨f, rfl⟩ : ∃ m, f = m + 2 := ⟨f - 2, by omega⟩
    obtain ⟨e1, e2, e3⟩ := t_rdn_S T s n
    obtain ⟨o1, o2, o3⟩ := hM.2.2.2.1 s hs
    rw [e1] at o2
    show Ok (m7_read_L29b _ _ _ _ _ σ) Q
    unfold m7_read_L29b
    rw [if_neg (by decide)]
    simp (disch := omega) only [gd_nI, sy_ix, ix_nI, o2, nI_2, nI_60, nI_add, nI_1, show nI (2 * n) + 2 = nI (2 * n + 2) from nI_add _ 2]
    by_cases c1 : 2 * n + 2 ≤ tS T s
    · rw [if_neg (nI_nlt (by omega) (by omega))]
      have i1 : σ 64 (60 * s + 2 * n) = tI T s (2 * n) := by rw [o3 (2 * n) (by rw [e1]; omega), e2]
      have i2 : σ 64 (60 * s + 2 * n + 1) = tI T s (2 * n + 1) := by rw [show 60 * s + 2 * n + 1 = 60 * s + (2 * n + 1) by omega, o3 (2 * n + 1) (by rw [e1]; omega), e2]
      simp (disch := omega) only [gd_nI, ix_nI, i1, i2]
      refine ok_bd (md_event (okT_rd hT n hok) hM _ _) (fun x σ1 g => ?_)
      obtain ⟨g1, g2, g3⟩ := g
      have hF1 := hF.tr g2
      by_cases c2 : okR T s n
      · have e : an_event (t_rdn T s n) (tI T s (2 * n)) (tI T s (2 * n + 1)) = (nI (tE T + n + 1), t_rdn T s (n + 1)) := by
          unfold an_event
          rw [if_pos c2.2.1, if_neg (by rw [t_rdn_E]; have := c2.2.2; omega), t_rdn_E]
          rfl
        rw [e] at g1 g3
        have := c2.2.2
        rw [g1, if_neg (nI_pos (by omega)), if_neg (by decide), lt_eq]
        exact ih (n + 1) (by omega) (f + 1) (by omega) (fun j hj => by
          by_cases e : j = n
          · subst e; exact c2
          · exact hok j (by omega)) σ1 hF1 g3
      · have e : (an_event (t_rdn T s n) (tI T s (2 * n)) (tI T s (2 * n + 1))).1 < 0 ∧ (an_event (t_rdn T s n) (tI T s (2 * n)) (tI T s (2 * n + 1))).2 = t_rdn T s n := by
          unfold an_event
          by_cases z : okE (tI T s (2 * n)) (tI T s (2 * n + 1))
          · rw [if_pos z, if_pos (by
              rw [t_rdn_E]
              have h8 : ¬ (tE T + n < 8) := fun w => c2 ⟨c1, z, w⟩
              have := (okT_rd hT n hok).2.2.1
              rw [t_rdn_E] at this
              omega)]
            exact ⟨show (-4 : Int32) < 0 by decide, rfl⟩
          · rw [if_neg z]
            exact ⟨show (-2 : Int32) < 0 by decide, rfl⟩
        rw [e.2] at g3
        rw [g1, if_pos e.1, if_pos trivial, lt_eq, nI_a0]
        show Ok (m7_read_L29b _ _ _ _ _ σ1) Q
        unfold m7_read_L29b
        rw [if_pos rfl]
        have hr := sp_rn_at hok c2 9 (by omega)
        rw [← hr] at g3 ⊢
        exact hE σ1 hF1 g3
    · rw [if_pos (nI_lt (by omega) (by omega))]
      have hr := sp_rn_at hok (fun q => c1 q.1) 9 (by omega)
      rw [← hr] at hM ⊢
      exact hE σ hF hM
theorem md_read {σ : St} {T : Td} (hT : okT T) (hM : isMT σ T) (s : Int32) : MD (m7_read s σ) σ (an_read T s).1 (an_read T s).2 := by
  unfold m7_read an_read
  rw [m7_isSheet_eq, bd_some, b01_0]
  by_cases c1 : 0 ≤ s ∧ s ≤ 3
  · rw [if_pos c1, if_pos c1]
    obtain ⟨s', hs', rfl⟩ := nI_rng (n := 3) (by omega) c1
    obtain ⟨o1, o2, o3⟩ := hM.2.2.2.1 s' (by omega)
    rw [show sy_ix (nI s') = s' from nI_clamp (by omega), gd_nI (by omega) (by omega), o1]
    by_cases d1 : 0 ≤ tF T s'
    · rw [if_pos d1, if_pos d1]
      exact m7_read_loop hT (by omega) _ (fun σ1 hF h => ok_some ⟨rfl, hF, h⟩) 9 0 (by omega) sy_FU (by show _ < 1000; omega) (fun j hj => by omega) σ mdF.rf hM
    · rw [if_neg d1, if_neg d1]
      exact md_pass (md_finds hM 1)
  · rw [if_neg c1, if_neg c1]
    exact ok_some ⟨rfl, mdF.rf, hM⟩
