/-- what each of the 81 cells is -/
def sy_shp : List (Nat ⊕ (Nat × Nat × Nat) ⊕ (Nat × List (Option Nat))) := [
  .inr (.inr (6, [some 1, some 3, some 5, some 15, some 25, some 34, some 43, some 46, some 47, some 48, some 49, some 50, some 51, some 52, none, none, none])),
  .inr (.inr (5, [none, none, none, some 1, none])),
  .inl 47,
  .inr (.inr (5, [none, none, none, some 1, none])),
  .inl 47,
  .inr (.inr (0, [none, some 1, some 2, some 3, some 4, none, some 5, some 6, some 7, none, none, some 8, some 9, none, none])),
  .inl 11,
  .inl 11,
  .inl 11,
  .inl 11,
  .inl 16,
  .inl 16,
  .inl 24,
  .inl 8,
  .inl 8,
  .inr (.inr (0, [none, some 1, some 2, some 3, some 4, none, some 5, some 6, some 7, none, none, some 8, some 9, none, none])),
  .inl 11,
  .inl 11,
  .inl 11,
  .inl 11,
  .inl 16,
  .inl 16,
  .inl 24,
  .inl 8,
  .inl 8,
  .inr (.inr (3, [some 1, some 2, some 3, some 4, some 5, some 6, some 7, none, none, none, none, none, some 8, none, none, none, none])),
  .inl 24,
  .inl 24,
  .inl 24,
  .inl 16,
  .inl 11,
  .inl 11,
  .inl 11,
  .inl 24,
  .inr (.inr (3, [some 1, some 2, some 3, some 4, some 5, some 6, some 7, none, none, none, none, none, some 8, none, none, none, none])),
  .inl 24,
  .inl 24,
  .inl 24,
  .inl 16,
  .inl 11,
  .inl 11,
  .inl 11,
  .inl 24,
  .inr (.inr (2, [some 1, some 2, none])),
  .inl 8,
  .inl 8,
  .inr (.inr (1, [none, none, none, none])),
  .inr (.inr (1, [none, none, none, none])),
  .inr (.inr (1, [none, none, none, none])),
  .inr (.inr (1, [none, none, none, none])),
  .inl 256,
  .inl 48,
  .inr (.inl (4, 53, 2)),
  .inr (.inr (4, [none, none, none, some 1])),
  .inl 60,
  .inr (.inr (4, [none, none, none, some 1])),
  .inl 60,
  .inr (.inr (4, [none, none, none, some 1])),
  .inl 60,
  .inr (.inr (4, [none, none, none, some 1])),
  .inl 60,
  .inr (.inr (7, [some 1, some 2, some 3, some 4, none, some 5, some 6, none, some 7, none, some 8, none, none, some 9, none, none, none, none, none, none, some 10, some 11, some 12, some 13, some 14, some 15, some 16, some 17, none, some 18, some 19, none])),
  .inl 4,
  .inl 4,
  .inl 240,
  .inl 60,
  .inl 96,
  .inl 2,
  .inl 22,
  .inl 32,
  .inl 16,
  .inl 24,
  .inl 24,
  .inl 24,
  .inl 16,
  .inl 11,
  .inl 11,
  .inl 11,
  .inl 11,
  .inl 16,
  .inl 64]
/-! ===== the store: every cell that the two constructors make, by number; all that changes later is ints ===== -/
abbrev St : Type := Nat → Nat → Int32
def sy_up (σ : St) (k : Nat) (f : Nat → Int32) : St := fun a => if a = k then f else σ a
def sy_sf (σ : St) (k j : Nat) (v : Int32) : St := sy_up σ k (upd (σ k) j v)
abbrev sy_ix (i : Int32) : Nat := i.toNatClampNeg
def sy_gd {γ : Type} (i : Int32) (n : Nat) (r : Option γ) : Option γ := if i < 0 ∨ n ≤ i.toNatClampNeg then none else r
def sy_dv {γ : Type} (y : Int32) (r : Option γ) : Option γ := if y = 0 then none else r
def sy_dl {γ : Type} (y : Int64) (r : Option γ) : Option γ := if y = 0 then none else r
def sy_zg {γ : Type} (v : Int32) (r : Option γ) : Option γ := if v = 0 ∨ v = 1 then r else none
def sy_bd {β γ : Type} (r : Option (β × St)) (k : β → St → Option (γ × St)) : Option (γ × St) := match r with
  | some q => k q.1 q.2
  | none => none
def sy_lt {δ γ : Type} (x : δ) (k : δ → γ) : γ := k x
def sy_cg {γ : Type} (sp dp n : Int32) (n0 n1 : Nat) (r : Option γ) : Option γ := if sp < 0 ∨ dp < 0 ∨ n < 0 ∨ n0 < sp.toNatClampNeg + n.toNatClampNeg ∨ n1 < dp.toNatClampNeg + n.toNatClampNeg then none else r
def sy_cp (σ : St) (k0 : Nat) (sp : Int32) (k1 : Nat) (dp n : Int32) : St := sy_up σ k1 (va_cpy (σ k0) (σ k1) sp.toNatClampNeg dp.toNatClampNeg n.toNatClampNeg)
/-- the kinds of cell: an int array of n; an array of n references, the j-th to cell a + b j; an object of a class, its fields: ints, or a reference to the cell so many further -/
abbrev Sh : Type := Nat ⊕ (Nat × Nat × Nat) ⊕ (Nat × List (Option Nat))
def sy_vm (ad : Nat → Nat) (v : Value) : Value := match v with
  | .ref k => .ref (ad k)
  | v => v
def sy_fv (ad : Nat → Nat) (σ : St) (k j : Nat) (o : Option Nat) : Value := match o with
  | some off => .ref (ad (k + off))
  | none => .int (σ k j)
def sy_fl (ad : Nat → Nat) (σ : St) (k : Nat) (fk : List (Option Nat)) : List Value := fk.mapIdx (sy_fv ad σ k)
def sy_ce (ad : Nat → Nat) (cI cR : ClassId) (σ : St) (k : Nat) (sh : Sh) : va_E := match sh with
  | .inl n => .inl (cI, n, .inl (σ k))
  | .inr (.inl q) => .inl (cR, q.1, .inr (.inr (.inr (.inr (fun j => some (ad (q.2.1 + q.2.2 * j)))))))
  | .inr (.inr o) => .inr (o.1, sy_fl ad σ k o.2)
def sy_w (ad : Nat → Nat) (cI cR : ClassId) (σ : St) : va_W := sy_shp.mapIdx (fun k sh => (ad k, sy_ce ad cI cR σ k sh))
theorem sy_w_at {ad : Nat → Nat} {cI cR : ClassId} {σ : St} {k : Nat} {sh : Sh} (h : sy_shp[k]? = some sh) : (sy_w ad cI cR σ)[k]? = some (ad k, sy_ce ad cI cR σ k sh) := by
  unfold sy_w
  rw [List.getElem?_mapIdx, h]
  rfl
theorem sy_w_of {ad : Nat → Nat} {cI cR : ClassId} {σ : St} {k : Nat} {q : Nat × va_E} (h : (sy_w ad cI cR σ)[k]? = some q) : ∃ sh, sy_shp[k]? = some sh ∧ q = (ad k, sy_ce ad cI cR σ k sh) := by
  unfold sy_w at h
  rw [List.getElem?_mapIdx] at h
  cases hs : sy_shp[k]? with
  | none => rw [hs] at h; cases h
  | some sh => rw [hs] at h; cases h; exact ⟨sh, rfl, rfl⟩
theorem sy_up_s {σ : St} {k : Nat} {f : Nat → Int32} : sy_up σ k f k = f := by simp [sy_up]
theorem sy_up_n {σ : St} {k a : Nat} {f : Nat → Int32} (h : a ≠ k) : sy_up σ k f a = σ a := by simp [sy_up, h]
theorem sy_ce_n {ad : Nat → Nat} {cI cR : ClassId} {σ : St} {k a : Nat} {f : Nat → Int32} (h : a ≠ k) (sh : Sh) : sy_ce ad cI cR (sy_up σ k f) a sh = sy_ce ad cI cR σ a sh := by
  unfold sy_ce
  split
  · rw [sy_up_n h]
  · rfl
  · congr 2
    unfold sy_fl
    congr 1
    funext j o
    unfold sy_fv
    split
    · rfl
    · rw [sy_up_n h]
/-- one cell of the world is another: the world of another store -/
theorem sy_w_set {ad : Nat → Nat} {cI cR : ClassId} {σ : St} {k : Nat} {f : Nat → Int32} {sh : Sh} (h : sy_shp[k]? = some sh) {e : va_E} (he : e = sy_ce ad cI cR (sy_up σ k f) k sh) : (sy_w ad cI cR σ).set k (ad k, e) = sy_w ad cI cR (sy_up σ k f) := by
  apply List.ext_getElem?
  intro j
  by_cases hj : k = j
  · subst hj
    rw [List.getElem?_set_self (by have := sy_w_at (ad := ad) (cI := cI) (cR := cR) (σ := σ) h; exact (List.getElem?_eq_some_iff.mp this).1), sy_w_at h, he]
  · rw [List.getElem?_set_ne hj]
    unfold sy_w
    rw [List.getElem?_mapIdx, List.getElem?_mapIdx]
    cases hs : sy_shp[j]? with
    | none => rfl
    | some s2 =>
      show some (ad j, _) = some (ad j, _)
      rw [sy_ce_n (fun e => hj e.symm)]
theorem sy_fl_set {ad : Nat → Nat} {σ : St} {k j : Nat} {fk : List (Option Nat)} {v : Int32} (h : fk[j]? = some none) : (sy_fl ad σ k fk).set j (.int v) = sy_fl ad (sy_sf σ k j v) k fk := by
  apply List.ext_getElem?
  intro i
  by_cases hi : j = i
  · subst hi
    rw [List.getElem?_set_self (by unfold sy_fl; rw [List.length_mapIdx]; exact (List.getElem?_eq_some_iff.mp h).1)]
    unfold sy_fl
    rw [List.getElem?_mapIdx, h]
    simp [sy_fv, sy_sf, sy_up, upd]
  · rw [List.getElem?_set_ne hi]
    unfold sy_fl
    rw [List.getElem?_mapIdx, List.getElem?_mapIdx]
    cases hs : fk[i]? with
    | none => rfl
    | some o =>
      cases o with
      | some off => rfl
      | none =>
        have : ¬ i = j := fun e => hi e.symm
        simp [sy_fv, sy_sf, sy_up, upd, this]
/-! ===== locals by their places ===== -/
def sy_nl (o : Option Value) : Option Value := match o with
  | some (.long _) => none
  | some (.double _) => none
  | o => o
def sy_s1 : List (Option Value) → Nat → Value → List (Option Value)
  | [], _, _ => []
  | _ :: r, 0, v => some v :: r
  | o :: [], 1, _ => [sy_nl o]
  | o :: _ :: r, 1, v => sy_nl o :: some v :: r
  | o :: r, i + 2, v => o :: sy_s1 r (i + 1) v
def sy_s2 (lv : List (Option Value)) (i : Nat) (v : Value) : List (Option Value) := (sy_s1 lv i v).set (i + 1) none
def sy_fg (lv : List (Option Value)) (ks : List Nat) : List (Option Value) := ks.foldl (fun l k => l.set k none) lv
def sy_hs (ad : Nat → Nat) (nL : Nat) (ls : Array Slot) (lv : List (Option Value)) : Prop := ls.size = nL ∧ lv_wf ls ∧ ∀ (i : Nat) (v : Value), lv[i]? = some (some v) → ls[i]? = some (.val (sy_vm ad v))
theorem sy_nl_some {o : Option Value} {w : Value} (h : sy_nl o = some w) : o = some w ∧ w.category ≠ 2 := by
  unfold sy_nl at h
  split at h
  · cases h
  · cases h
  · rename_i h1 h2
    refine ⟨h, fun hc => ?_⟩
    cases w with
    | long x => exact h1 x h
    | double x => exact h2 x h
    | _ => simp [Value.category] at hc
theorem sy_s1_at : ∀ (lv : List (Option Value)) (i : Nat) (v : Value) (j : Nat) (w : Value), (sy_s1 lv i v)[j]? = some (some w) → (j = i ∧ w = v) ∨ (j ≠ i ∧ lv[j]? = some (some w) ∧ (j + 1 = i → w.category ≠ 2))
  | [], _, _, j, w, h => by simp [sy_s1] at h
  | o :: r, 0, v, j, w, h => by
    cases j with
    | zero => simp [sy_s1] at h; exact Or.inl ⟨rfl, h.symm⟩
    | succ j => simp [sy_s1] at h; exact Or.inr ⟨by omega, by simpa using h, fun e => by omega⟩
  | [o], 1, v, j, w, h => by
    cases j with
    | zero =>
      simp [sy_s1] at h
      obtain ⟨h1, h2⟩ := sy_nl_some h
      exact Or.inr ⟨by omega, by simp [h1], fun _ => h2⟩
    | succ j => simp [sy_s1] at h
  | o :: o2 :: r, 1, v, j, w, h => by
    match j with
    | 0 =>
      simp [sy_s1] at h
      obtain ⟨h1, h2⟩ := sy_nl_some h
      exact Or.inr ⟨by omega, by simp [h1], fun _ => h2⟩
    | 1 => simp [sy_s1] at h; exact Or.inl ⟨rfl, h.symm⟩
    | j + 2 => simp [sy_s1] at h; exact Or.inr ⟨by omega, by simpa using h, fun e => by omega⟩
  | o :: r, i + 2, v, j, w, h => by
    cases j with
    | zero =>
      cases r <;> (simp [sy_s1] at h; exact Or.inr ⟨by omega, by simp [h], fun e => by omega⟩)
    | succ j =>
      have h' : (sy_s1 r (i + 1) v)[j]? = some (some w) := by cases r <;> simpa [sy_s1] using h
      rcases sy_s1_at r (i + 1) v j w h' with ⟨a, b⟩ | ⟨a, b, c⟩
      · exact Or.inl ⟨by omega, b⟩
      · exact Or.inr ⟨by omega, by simpa using b, fun e => c (by omega)⟩
theorem sy_vm_cat (ad : Nat → Nat) (v : Value) : (sy_vm ad v).category = v.category := by cases v <;> rfl
def sy_al (ad : Nat → Nat) (lv : List (Option Value)) : List (Nat × Value) := (List.range lv.length).filterMap (fun i => match lv[i]? with
  | some (some v) => some (i, sy_vm ad v)
  | _ => none)
theorem sy_al_mem {ad : Nat → Nat} {lv : List (Option Value)} {i : Nat} {v : Value} (h : lv[i]? = some (some v)) : (i, sy_vm ad v) ∈ sy_al ad lv := by
  unfold sy_al
  rw [List.mem_filterMap]
  exact ⟨i, List.mem_range.mpr (List.getElem?_eq_some_iff.mp h).1, by rw [h]⟩
theorem sy_hs.has {ad : Nat → Nat} {nL : Nat} {ls : Array Slot} {lv : List (Option Value)} (h : sy_hs ad nL ls lv) : lv_has ls nL (sy_al ad lv) := by
  refine ⟨h.1, h.2.1, fun q hq => ?_⟩
  unfold sy_al at hq
  obtain ⟨i, -, hi⟩ := List.mem_filterMap.mp hq
  split at hi
  · rename_i v hv
    cases hi
    exact h.2.2 i v hv
  · cases hi
theorem sy_hs.st1 {ad : Nat → Nat} {nL : Nat} {ls : Array Slot} {lv : List (Option Value)} {i : Nat} {v : Value} (h : lv_has ls nL ((i, sy_vm ad v) :: (sy_al ad lv).filter (fun q => !(q.1 == i) && !(q.1 + 1 == i && q.2.category == 2)))) : sy_hs ad nL ls (sy_s1 lv i v) := by
  refine ⟨h.1, h.2.1, fun j w hj => ?_⟩
  rcases sy_s1_at lv i v j w hj with ⟨rfl, rfl⟩ | ⟨a, b, c⟩
  · exact h.2.2 (j, sy_vm ad w) List.mem_cons_self
  · refine h.2.2 (j, sy_vm ad w) (List.mem_cons_of_mem _ (List.mem_filter.mpr ⟨sy_al_mem b, ?_⟩))
    have h1 : (j == i) = false := by simpa using a
    by_cases e : j + 1 = i
    · have := c e
      simp [h1, sy_vm_cat, this]
    · simp [h1, e]
theorem sy_hs.st2 {ad : Nat → Nat} {nL : Nat} {ls : Array Slot} {lv : List (Option Value)} {i : Nat} {v : Value} (h : lv_has ls nL ((i, sy_vm ad v) :: (sy_al ad lv).filter (fun q => !(q.1 == i) && (!(q.1 == i + 1) && !(q.1 + 1 == i && q.2.category == 2))))) : sy_hs ad nL ls (sy_s2 lv i v) := by
  refine ⟨h.1, h.2.1, fun j w hj => ?_⟩
  unfold sy_s2 at hj
  by_cases hji : i + 1 = j
  · subst hji
    rw [List.getElem?_set] at hj
    simp at hj
  · rw [List.getElem?_set_ne hji] at hj
    rcases sy_s1_at lv i v j w hj with ⟨rfl, rfl⟩ | ⟨a, b, c⟩
    · exact h.2.2 (j, sy_vm ad w) List.mem_cons_self
    · refine h.2.2 (j, sy_vm ad w) (List.mem_cons_of_mem _ (List.mem_filter.mpr ⟨sy_al_mem b, ?_⟩))
      have h1 : (j == i) = false := by simpa using a
      have h2 : (j == i + 1) = false := by simp; omega
      by_cases e : j + 1 = i
      · have := c e
        simp [h1, h2, sy_vm_cat, this]
      · simp [h1, h2, e]
theorem sy_set_none {lv : List (Option Value)} {k i : Nat} {v : Value} (h : (lv.set k none)[i]? = some (some v)) : lv[i]? = some (some v) := by
  rw [List.getElem?_set] at h
  split at h
  · split at h <;> simp at h
  · exact h
theorem sy_fg_at (ks : List Nat) : ∀ (lv : List (Option Value)) (i : Nat) (v : Value), (sy_fg lv ks)[i]? = some (some v) → lv[i]? = some (some v) := by
  induction ks with
  | nil => exact fun _ _ _ h => h
  | cons k ks ih => exact fun lv i v h => sy_set_none (ih (lv.set k none) i v h)
def sy_ent : List Value → Nat → List (Option Value)
  | [], n => List.replicate n none
  | .long x :: vs, n => some (.long x) :: none :: sy_ent vs (n - 2)
  | .double x :: vs, n => some (.double x) :: none :: sy_ent vs (n - 2)
  | v :: vs, n => some v :: sy_ent vs (n - 1)
theorem sy_ent_2 (v : Value) (vs : List Value) (n : Nat) : (v.category = 2 ∧ sy_ent (v :: vs) n = some v :: none :: sy_ent vs (n - 2)) ∨ (¬ v.category = 2 ∧ sy_ent (v :: vs) n = some v :: sy_ent vs (n - 1)) := by
  cases v <;> simp [sy_ent, Value.category]
theorem sy_ent_at (ad : Nat → Nat) : ∀ (vs : List Value) (n o i : Nat) (w : Value), (sy_ent vs n)[i]? = some (some w) → (o + i, sy_vm ad w) ∈ lv_args o (vs.map (sy_vm ad))
  | [], n, o, i, w, h => by
    simp [sy_ent, List.getElem?_replicate] at h
  | v :: vs, n, o, i, w, h => by
    rcases sy_ent_2 v vs n with ⟨hc, he⟩ | ⟨hc, he⟩
    · rw [he] at h
      simp only [List.map_cons, lv_args, sy_vm_cat, hc, if_true]
      match i with
      | 0 => simp at h; subst h; simp
      | 1 => simp at h
      | i + 2 =>
        have h' : (sy_ent vs (n - 2))[i]? = some (some w) := by simpa using h
        have := sy_ent_at ad vs (n - 2) (o + 2) i w h'
        rw [show o + (i + 2) = o + 2 + i by omega]
        exact List.mem_cons_of_mem _ this
    · rw [he] at h
      simp only [List.map_cons, lv_args, sy_vm_cat, hc, if_false]
      cases i with
      | zero => simp at h; subst h; simp
      | succ i =>
        have h' : (sy_ent vs (n - 1))[i]? = some (some w) := by simpa using h
        have := sy_ent_at ad vs (n - 1) (o + 1) i w h'
        rw [show o + (i + 1) = o + 1 + i by omega]
        exact List.mem_cons_of_mem _ this
