/-- the tables' words that stay true as the machine goes on, and the two links of nest mates' private methods -/
def sy_T : List Cond := lw_tbl.filter goodWord
abbrev sy_n1 : Cond := .methodLinkNest RX0 86 yX6_within RX6
abbrev sy_n2 : Cond := .methodLinkNest RX0 90 yX6_isEvent RX6
theorem sy_mem {w : Cond} (i : Nat) (h : lw_tbl[i]? = some w) (hg : goodWord w = true) : w ∈ sy_T := List.mem_filter.mpr ⟨List.mem_of_getElem? h, hg⟩
theorem sy_m_nat : Cond.native arraycopyName ∈ sy_T := List.mem_filter.mpr ⟨by decide +kernel, rfl⟩
theorem sy_m_stat : Cond.static arraycopyName ∈ sy_T := List.mem_filter.mpr ⟨by decide +kernel, rfl⟩
theorem sy_m_ini : Cond.initialized "java/lang/System" ∈ sy_T := List.mem_filter.mpr ⟨by decide +kernel, rfl⟩
/-! ===== the walk of a method over the store: judgement Ab, a row an instruction ===== -/
abbrev Kx : Type := Program × Launch × Env × Room × State × MethodId × Array Value × List Frame × Method × Code × Nat × Nat × (State → Prop) × va_G × (Nat → Prop) × (Nat → Nat) × ClassId × ClassId
abbrev sy_ty (cI cR : ClassId) : List (ClassId × FieldType) := [(cI, .int), (cR, .object RX4)]
/-- what a walk stands on: the machine, the code of the method, its class, what it returns, how deep it calls -/
def Gd : Kx → ByteArray → Nat → String → Option FieldType → Nat → Prop
  | (p, l, e, R, s, m, args, below, meth, c, cells, slots, Q, D, A, ad, cI, cR), cc, nL, own, ret, d =>
    p.tables.exec = Jvm.exec ∧ c.code = cc ∧ c.maxLocals = nL ∧ s.vm.findClass own = some m.cls ∧ (∀ w ∈ sy_T, w.before args s = true) ∧ va_K D vwCl (sy_ty cI cR) s ∧ (∀ i j : Nat, i < 81 → j < 81 → ad i = ad j → i = j) ∧ (∀ k : Nat, k < 81 → A (ad k)) ∧ d ≤ R.frames ∧ 44 * d ≤ R.locals ∧ cells ≤ R.cells ∧ slots ≤ R.slots ∧ meth.sig.returnType = ret ∧ va_Nw sy_n1 s ∧ va_Nw sy_n2 s
/-- a place where a method ends with this value -/
def sy_ri (cc : ByteArray) (pc : Nat) (ret : Option FieldType) (rv : Option Value) : Prop := match rv with
  | none => decode cc pc = .ok (.return_, 1) ∧ ret = none
  | some (.int v) => decode cc pc = .ok (.ireturn, 1) ∧ ∃ ty, ret = some ty ∧ narrow ty (.int v) = .int v
  | some (.long _) => decode cc pc = .ok (.lreturn, 1) ∧ ret = some .long
  | some (.ref _) => decode cc pc = .ok (.areturn, 1) ∧ ∃ n, ret = some (.object n)
  | _ => False
def Ab {α : Type} (cv : α → Option Value) : Kx → Nat → List (Option Value) → List Value → St → Option (α × St) → Prop
  | (p, l, e, R, s, m, args, below, meth, c, cells, slots, Q, D, A, ad, cI, cR), pc, lv, st, σ, res =>
    ∀ (r : α) (σ' : St), res = some (r, σ') →
      (∀ (H : Heap) (locs : List Loc) (ls : Array Slot) (pc' : Nat), va_P D vwCl (sy_w ad cI cR σ') H → va_S A s.heap H locs → sy_ri c.code pc' meth.sig.returnType (cv r) → W p l e R s m args below meth c H locs cells slots Q (F0 m pc' ls ((cv r).map (sy_vm ad)).toList)) →
      ∀ (H : Heap) (locs : List Loc) (ls : Array Slot), va_P D vwCl (sy_w ad cI cR σ) H → va_S A s.heap H locs → sy_hs ad c.maxLocals ls lv → W p l e R s m args below meth c H locs cells slots Q (F0 m pc ls (st.map (sy_vm ad)))
abbrev sy_vi (x : Int32) : Option Value := some (.int x)
abbrev sy_vl (x : Int64) : Option Value := some (.long x)
abbrev sy_vr (k : Nat) : Option Value := some (.ref k)
abbrev sy_cu (_ : Unit) : Option Value := none
section Rows
variable {α : Type} {cv : α → Option Value} {κ : Kx} {cc : ByteArray} {nL d : Nat} {own : String} {ret : Option FieldType} {pc : Nat} {lv lv' : List (Option Value)} {st : List Value} {σ : St} {res r1 r2 : Option (α × St)}
theorem sy_D {ad : Nat → Nat} {cI cR : ClassId} {A : Nat → Prop} (hi : ∀ i j : Nat, i < 81 → j < 81 → ad i = ad j → i = j) (hA : ∀ k : Nat, k < 81 → A (ad k)) : va_D A (sy_w ad cI cR σ) := by
  have hl : ∀ (k : Nat) (q : Nat × va_E), (sy_w ad cI cR σ)[k]? = some q → k < 81 ∧ q.1 = ad k := by
    intro k q h
    obtain ⟨sh, h1, h2⟩ := sy_w_of h
    have h3 := (List.getElem?_eq_some_iff.mp h1).1
    exact ⟨h3, by rw [h2]⟩
  refine ⟨fun i j p q h1 h2 h3 => ?_, fun k q h => ?_⟩
  · obtain ⟨a1, a2⟩ := hl i p h1
    obtain ⟨b1, b2⟩ := hl j q h2
    exact hi i j a1 b1 (by rw [← a2, ← b2, h3])
  · obtain ⟨a1, a2⟩ := hl k q h
    rw [a2]
    exact hA k a1
theorem ab_none : Ab cv κ pc lv st σ none := by
  obtain ⟨p, l, e, R, s, m, args, below, meth, c, cells, slots, Q, D, A, ad, cI, cR⟩ := κ
  intro r σ' h
  cases h
theorem ab_if {P : Prop} [Decidable P] (h1 : P → Ab cv κ pc lv st σ r1) (h2 : ¬ P → Ab cv κ pc lv st σ r2) : Ab cv κ pc lv st σ (if P then r1 else r2) := by
  by_cases h : P
  · rw [if_pos h]; exact h1 h
  · rw [if_neg h]; exact h2 h
theorem ab_fg (ks : List Nat) (h : sy_fg lv ks = lv') (k : Ab cv κ pc lv' st σ res) : Ab cv κ pc lv st σ res := by
  obtain ⟨p, l, e, R, s, m, args, below, meth, c, cells, slots, Q, D, A, ad, cI, cR⟩ := κ
  intro r σ' hr hret H locs ls hP hS hL
  subst h
  exact k r σ' hr hret H locs ls hP hS ⟨hL.1, hL.2.1, fun i v hi => hL.2.2 i v (sy_fg_at ks lv i v hi)⟩
theorem ab_iconst (hκ : Gd κ cc nL own ret d) {n : Int} {v : Int32} (hd : decode cc pc = .ok (.iconst n, 1)) (hv : Int32.ofInt n = v) (k : Ab cv κ (pc + 1) lv (.int v :: st) σ res) : Ab cv κ pc lv (st) σ res := by
  obtain ⟨p, l, e, R, s, m, args, below, meth, c, cells, slots, Q, D, A, ad, cI, cR⟩ := κ
  obtain ⟨hx, hb, hml, hown, hts, hK, hinj, hA, hfr, hlo, hce, hsl, hrt, hn1, hn2⟩ := hκ
  intro r σ' hr hret H locs ls hP hS hL
  exact lv_iconst hx hb hd hv (k r σ' hr hret H locs ls hP hS hL)
theorem ab_bipush (hκ : Gd κ cc nL own ret d) {n : Int} {v : Int32} (hd : decode cc pc = .ok (.bipush n, 2)) (hv : (Int8.ofInt n).toInt32 = v) (k : Ab cv κ (pc + 2) lv (.int v :: st) σ res) : Ab cv κ pc lv (st) σ res := by
  obtain ⟨p, l, e, R, s, m, args, below, meth, c, cells, slots, Q, D, A, ad, cI, cR⟩ := κ
  obtain ⟨hx, hb, hml, hown, hts, hK, hinj, hA, hfr, hlo, hce, hsl, hrt, hn1, hn2⟩ := hκ
  intro r σ' hr hret H locs ls hP hS hL
  exact lv_bipush hx hb hd hv (k r σ' hr hret H locs ls hP hS hL)
theorem ab_sipush (hκ : Gd κ cc nL own ret d) {n : Int} {v : Int32} (hd : decode cc pc = .ok (.sipush n, 3)) (hv : (Int16.ofInt n).toInt32 = v) (k : Ab cv κ (pc + 3) lv (.int v :: st) σ res) : Ab cv κ pc lv (st) σ res := by
  obtain ⟨p, l, e, R, s, m, args, below, meth, c, cells, slots, Q, D, A, ad, cI, cR⟩ := κ
  obtain ⟨hx, hb, hml, hown, hts, hK, hinj, hA, hfr, hlo, hce, hsl, hrt, hn1, hn2⟩ := hκ
  intro r σ' hr hret H locs ls hP hS hL
  exact lv_sipush hx hb hd hv (k r σ' hr hret H locs ls hP hS hL)
theorem ab_lconst (hκ : Gd κ cc nL own ret d) {n : Fin 2} {v : Int64} (hd : decode cc pc = .ok (.lconst n, 1)) (hv : Int64.ofNat (n : Nat) = v) (k : Ab cv κ (pc + 1) lv (.long v :: st) σ res) : Ab cv κ pc lv (st) σ res := by
  obtain ⟨p, l, e, R, s, m, args, below, meth, c, cells, slots, Q, D, A, ad, cI, cR⟩ := κ
  obtain ⟨hx, hb, hml, hown, hts, hK, hinj, hA, hfr, hlo, hce, hsl, hrt, hn1, hn2⟩ := hκ
  intro r σ' hr hret H locs ls hP hS hL
  exact lv_lconst hx hb hd hv (k r σ' hr hret H locs ls hP hS hL)
theorem ab_ldc (hκ : Gd κ cc nL own ret d) {i : Nat} {v : Int32} (hd : decode cc pc = .ok (.ldc i, 2)) (hc : Cond.constant own i v ∈ sy_T) (k : Ab cv κ (pc + 2) lv (.int v :: st) σ res) : Ab cv κ pc lv (st) σ res := by
  obtain ⟨p, l, e, R, s, m, args, below, meth, c, cells, slots, Q, D, A, ad, cI, cR⟩ := κ
  obtain ⟨hx, hb, hml, hown, hts, hK, hinj, hA, hfr, hlo, hce, hsl, hrt, hn1, hn2⟩ := hκ
  intro r σ' hr hret H locs ls hP hS hL
  exact lv_ldc hx hb hown (hts _ hc) hd (k r σ' hr hret H locs ls hP hS hL)
theorem ab_ldcw (hκ : Gd κ cc nL own ret d) {i : Nat} {v : Int32} (hd : decode cc pc = .ok (.ldc_w i, 3)) (hc : Cond.constant own i v ∈ sy_T) (k : Ab cv κ (pc + 3) lv (.int v :: st) σ res) : Ab cv κ pc lv (st) σ res := by
  obtain ⟨p, l, e, R, s, m, args, below, meth, c, cells, slots, Q, D, A, ad, cI, cR⟩ := κ
  obtain ⟨hx, hb, hml, hown, hts, hK, hinj, hA, hfr, hlo, hce, hsl, hrt, hn1, hn2⟩ := hκ
  intro r σ' hr hret H locs ls hP hS hL
  exact lv_ldcw hx hb hown (hts _ hc) hd (k r σ' hr hret H locs ls hP hS hL)
theorem ab_ldc2 (hκ : Gd κ cc nL own ret d) {i : Nat} {v : Int64} (hd : decode cc pc = .ok (.ldc2_w i, 3)) (hc : Cond.constantLong own i v ∈ sy_T) (k : Ab cv κ (pc + 3) lv (.long v :: st) σ res) : Ab cv κ pc lv (st) σ res := by
  obtain ⟨p, l, e, R, s, m, args, below, meth, c, cells, slots, Q, D, A, ad, cI, cR⟩ := κ
  obtain ⟨hx, hb, hml, hown, hts, hK, hinj, hA, hfr, hlo, hce, hsl, hrt, hn1, hn2⟩ := hκ
  intro r σ' hr hret H locs ls hP hS hL
  exact lv_ldc2 hx hb hown (hts _ hc) hd (k r σ' hr hret H locs ls hP hS hL)
theorem ab_iload_n (hκ : Gd κ cc nL own ret d) {n : Fin 4} {x : Int32} (hd : decode cc pc = .ok (.iload_n n, 1)) (hl : lv[(n : Nat)]? = some (some (.int x))) (k : Ab cv κ (pc + 1) lv (.int x :: st) σ res) : Ab cv κ pc lv (st) σ res := by
  obtain ⟨p, l, e, R, s, m, args, below, meth, c, cells, slots, Q, D, A, ad, cI, cR⟩ := κ
  obtain ⟨hx, hb, hml, hown, hts, hK, hinj, hA, hfr, hlo, hce, hsl, hrt, hn1, hn2⟩ := hκ
  intro r σ' hr hret H locs ls hP hS hL
  exact lv_iload_n hx hb hd rfl (hL.2.2 _ _ hl) (k r σ' hr hret H locs ls hP hS hL)
theorem ab_iload (hκ : Gd κ cc nL own ret d) {i : Nat} {x : Int32} (hd : decode cc pc = .ok (.iload i, 2)) (hl : lv[i]? = some (some (.int x))) (k : Ab cv κ (pc + 2) lv (.int x :: st) σ res) : Ab cv κ pc lv (st) σ res := by
  obtain ⟨p, l, e, R, s, m, args, below, meth, c, cells, slots, Q, D, A, ad, cI, cR⟩ := κ
  obtain ⟨hx, hb, hml, hown, hts, hK, hinj, hA, hfr, hlo, hce, hsl, hrt, hn1, hn2⟩ := hκ
  intro r σ' hr hret H locs ls hP hS hL
  exact lv_iload hx hb hd (hL.2.2 _ _ hl) (k r σ' hr hret H locs ls hP hS hL)
theorem ab_istore_n (hκ : Gd κ cc nL own ret d) {n : Fin 4} {i : Nat} {x : Int32} (hd : decode cc pc = .ok (.istore_n n, 1)) (hi : (n : Nat) = i) (hn : i < nL) (hl : sy_s1 lv i (.int x) = lv') (k : Ab cv κ (pc + 1) lv' st σ res) : Ab cv κ pc lv (.int x :: st) σ res := by
  obtain ⟨p, l, e, R, s, m, args, below, meth, c, cells, slots, Q, D, A, ad, cI, cR⟩ := κ
  obtain ⟨hx, hb, hml, hown, hts, hK, hinj, hA, hfr, hlo, hce, hsl, hrt, hn1, hn2⟩ := hκ
  intro r σ' hr hret H locs ls hP hS hL
  subst hl
  exact lv_istore_n hx hb hd hi (hml ▸ hL).has hn rfl (fun ls hl => k r σ' hr hret H locs ls hP hS (hml.symm ▸ sy_hs.st1 (v := .int x) hl))
theorem ab_istore (hκ : Gd κ cc nL own ret d) {i : Nat} {x : Int32} (hd : decode cc pc = .ok (.istore i, 2)) (hn : i < nL) (hl : sy_s1 lv i (.int x) = lv') (k : Ab cv κ (pc + 2) lv' st σ res) : Ab cv κ pc lv (.int x :: st) σ res := by
  obtain ⟨p, l, e, R, s, m, args, below, meth, c, cells, slots, Q, D, A, ad, cI, cR⟩ := κ
  obtain ⟨hx, hb, hml, hown, hts, hK, hinj, hA, hfr, hlo, hce, hsl, hrt, hn1, hn2⟩ := hκ
  intro r σ' hr hret H locs ls hP hS hL
  subst hl
  exact lv_istore hx hb hd (hml ▸ hL).has hn rfl (fun ls hl => k r σ' hr hret H locs ls hP hS (hml.symm ▸ sy_hs.st1 (v := .int x) hl))
theorem ab_lload_n (hκ : Gd κ cc nL own ret d) {n : Fin 4} {x : Int64} (hd : decode cc pc = .ok (.lload_n n, 1)) (hl : lv[(n : Nat)]? = some (some (.long x))) (k : Ab cv κ (pc + 1) lv (.long x :: st) σ res) : Ab cv κ pc lv (st) σ res := by
  obtain ⟨p, l, e, R, s, m, args, below, meth, c, cells, slots, Q, D, A, ad, cI, cR⟩ := κ
  obtain ⟨hx, hb, hml, hown, hts, hK, hinj, hA, hfr, hlo, hce, hsl, hrt, hn1, hn2⟩ := hκ
  intro r σ' hr hret H locs ls hP hS hL
  exact lv_lload_n hx hb hd rfl (hL.2.2 _ _ hl) (k r σ' hr hret H locs ls hP hS hL)
theorem ab_lload (hκ : Gd κ cc nL own ret d) {i : Nat} {x : Int64} (hd : decode cc pc = .ok (.lload i, 2)) (hl : lv[i]? = some (some (.long x))) (k : Ab cv κ (pc + 2) lv (.long x :: st) σ res) : Ab cv κ pc lv (st) σ res := by
  obtain ⟨p, l, e, R, s, m, args, below, meth, c, cells, slots, Q, D, A, ad, cI, cR⟩ := κ
  obtain ⟨hx, hb, hml, hown, hts, hK, hinj, hA, hfr, hlo, hce, hsl, hrt, hn1, hn2⟩ := hκ
  intro r σ' hr hret H locs ls hP hS hL
  exact lv_lload hx hb hd (hL.2.2 _ _ hl) (k r σ' hr hret H locs ls hP hS hL)
theorem ab_lstore_n (hκ : Gd κ cc nL own ret d) {n : Fin 4} {i : Nat} {x : Int64} (hd : decode cc pc = .ok (.lstore_n n, 1)) (hi : (n : Nat) = i) (hn : i + 1 < nL) (hl : sy_s2 lv i (.long x) = lv') (k : Ab cv κ (pc + 1) lv' st σ res) : Ab cv κ pc lv (.long x :: st) σ res := by
  obtain ⟨p, l, e, R, s, m, args, below, meth, c, cells, slots, Q, D, A, ad, cI, cR⟩ := κ
  obtain ⟨hx, hb, hml, hown, hts, hK, hinj, hA, hfr, hlo, hce, hsl, hrt, hn1, hn2⟩ := hκ
  intro r σ' hr hret H locs ls hP hS hL
  subst hl
  exact lv_lstore_n hx hb hd hi (hml ▸ hL).has hn rfl (fun ls hl => k r σ' hr hret H locs ls hP hS (hml.symm ▸ sy_hs.st2 (v := .long x) hl))
theorem ab_lstore (hκ : Gd κ cc nL own ret d) {i : Nat} {x : Int64} (hd : decode cc pc = .ok (.lstore i, 2)) (hn : i + 1 < nL) (hl : sy_s2 lv i (.long x) = lv') (k : Ab cv κ (pc + 2) lv' st σ res) : Ab cv κ pc lv (.long x :: st) σ res := by
  obtain ⟨p, l, e, R, s, m, args, below, meth, c, cells, slots, Q, D, A, ad, cI, cR⟩ := κ
  obtain ⟨hx, hb, hml, hown, hts, hK, hinj, hA, hfr, hlo, hce, hsl, hrt, hn1, hn2⟩ := hκ
  intro r σ' hr hret H locs ls hP hS hL
  subst hl
  exact lv_lstore hx hb hd (hml ▸ hL).has hn rfl (fun ls hl => k r σ' hr hret H locs ls hP hS (hml.symm ▸ sy_hs.st2 (v := .long x) hl))
theorem ab_aload_n (hκ : Gd κ cc nL own ret d) {n : Fin 4} {x : Nat} (hd : decode cc pc = .ok (.aload_n n, 1)) (hl : lv[(n : Nat)]? = some (some (.ref x))) (k : Ab cv κ (pc + 1) lv (.ref x :: st) σ res) : Ab cv κ pc lv (st) σ res := by
  obtain ⟨p, l, e, R, s, m, args, below, meth, c, cells, slots, Q, D, A, ad, cI, cR⟩ := κ
  obtain ⟨hx, hb, hml, hown, hts, hK, hinj, hA, hfr, hlo, hce, hsl, hrt, hn1, hn2⟩ := hκ
  intro r σ' hr hret H locs ls hP hS hL
  exact lv_aload_n hx hb hd rfl (hL.2.2 _ _ hl) (k r σ' hr hret H locs ls hP hS hL)
theorem ab_aload (hκ : Gd κ cc nL own ret d) {i : Nat} {x : Nat} (hd : decode cc pc = .ok (.aload i, 2)) (hl : lv[i]? = some (some (.ref x))) (k : Ab cv κ (pc + 2) lv (.ref x :: st) σ res) : Ab cv κ pc lv (st) σ res := by
  obtain ⟨p, l, e, R, s, m, args, below, meth, c, cells, slots, Q, D, A, ad, cI, cR⟩ := κ
  obtain ⟨hx, hb, hml, hown, hts, hK, hinj, hA, hfr, hlo, hce, hsl, hrt, hn1, hn2⟩ := hκ
  intro r σ' hr hret H locs ls hP hS hL
  exact lv_aload hx hb hd (hL.2.2 _ _ hl) (k r σ' hr hret H locs ls hP hS hL)
theorem ab_astore_n (hκ : Gd κ cc nL own ret d) {n : Fin 4} {i : Nat} {x : Nat} (hd : decode cc pc = .ok (.astore_n n, 1)) (hi : (n : Nat) = i) (hn : i < nL) (hl : sy_s1 lv i (.ref x) = lv') (k : Ab cv κ (pc + 1) lv' st σ res) : Ab cv κ pc lv (.ref x :: st) σ res := by
  obtain ⟨p, l, e, R, s, m, args, below, meth, c, cells, slots, Q, D, A, ad, cI, cR⟩ := κ
  obtain ⟨hx, hb, hml, hown, hts, hK, hinj, hA, hfr, hlo, hce, hsl, hrt, hn1, hn2⟩ := hκ
  intro r σ' hr hret H locs ls hP hS hL
  subst hl
  exact lv_astore_n hx hb hd hi (hml ▸ hL).has hn rfl (fun ls hl => k r σ' hr hret H locs ls hP hS (hml.symm ▸ sy_hs.st1 (v := .ref x) hl))
theorem ab_astore (hκ : Gd κ cc nL own ret d) {i : Nat} {x : Nat} (hd : decode cc pc = .ok (.astore i, 2)) (hn : i < nL) (hl : sy_s1 lv i (.ref x) = lv') (k : Ab cv κ (pc + 2) lv' st σ res) : Ab cv κ pc lv (.ref x :: st) σ res := by
  obtain ⟨p, l, e, R, s, m, args, below, meth, c, cells, slots, Q, D, A, ad, cI, cR⟩ := κ
  obtain ⟨hx, hb, hml, hown, hts, hK, hinj, hA, hfr, hlo, hce, hsl, hrt, hn1, hn2⟩ := hκ
  intro r σ' hr hret H locs ls hP hS hL
  subst hl
  exact lv_astore hx hb hd (hml ▸ hL).has hn rfl (fun ls hl => k r σ' hr hret H locs ls hP hS (hml.symm ▸ sy_hs.st1 (v := .ref x) hl))
theorem ab_iinc (hκ : Gd κ cc nL own ret d) {i : Nat} {n : Int} {x v : Int32} (hd : decode cc pc = .ok (.iinc i n, 3)) (hg : lv[i]? = some (some (.int x))) (hv : x + Int32.ofInt n = v) (hn : i < nL) (hl : sy_s1 lv i (.int v) = lv') (k : Ab cv κ (pc + 3) lv' st σ res) : Ab cv κ pc lv st σ res := by
  obtain ⟨p, l, e, R, s, m, args, below, meth, c, cells, slots, Q, D, A, ad, cI, cR⟩ := κ
  obtain ⟨hx, hb, hml, hown, hts, hK, hinj, hA, hfr, hlo, hce, hsl, hrt, hn1, hn2⟩ := hκ
  intro r σ' hr hret H locs ls hP hS hL
  subst hl
  obtain ⟨j, hj⟩ := List.getElem?_of_mem (sy_al_mem (ad := ad) hg)
  exact lv_iinc hx hb hd (hml ▸ hL).has hj hv hn rfl (fun ls hl => k r σ' hr hret H locs ls hP hS (hml.symm ▸ sy_hs.st1 (v := .int v) hl))
theorem ab_iadd (hκ : Gd κ cc nL own ret d) {x y : Int32} (hd : decode cc pc = .ok (.iadd, 1)) (k : Ab cv κ (pc + 1) lv (.int (x + y) :: st) σ res) : Ab cv κ pc lv (.int y :: .int x :: st) σ res := by
  obtain ⟨p, l, e, R, s, m, args, below, meth, c, cells, slots, Q, D, A, ad, cI, cR⟩ := κ
  obtain ⟨hx, hb, hml, hown, hts, hK, hinj, hA, hfr, hlo, hce, hsl, hrt, hn1, hn2⟩ := hκ
  intro r σ' hr hret H locs ls hP hS hL
  exact lv_iadd hx hb hd (k r σ' hr hret H locs ls hP hS hL)
theorem ab_isub (hκ : Gd κ cc nL own ret d) {x y : Int32} (hd : decode cc pc = .ok (.isub, 1)) (k : Ab cv κ (pc + 1) lv (.int (x - y) :: st) σ res) : Ab cv κ pc lv (.int y :: .int x :: st) σ res := by
  obtain ⟨p, l, e, R, s, m, args, below, meth, c, cells, slots, Q, D, A, ad, cI, cR⟩ := κ
  obtain ⟨hx, hb, hml, hown, hts, hK, hinj, hA, hfr, hlo, hce, hsl, hrt, hn1, hn2⟩ := hκ
  intro r σ' hr hret H locs ls hP hS hL
  exact lv_isub hx hb hd (k r σ' hr hret H locs ls hP hS hL)
theorem ab_imul (hκ : Gd κ cc nL own ret d) {x y : Int32} (hd : decode cc pc = .ok (.imul, 1)) (k : Ab cv κ (pc + 1) lv (.int (x * y) :: st) σ res) : Ab cv κ pc lv (.int y :: .int x :: st) σ res := by
  obtain ⟨p, l, e, R, s, m, args, below, meth, c, cells, slots, Q, D, A, ad, cI, cR⟩ := κ
  obtain ⟨hx, hb, hml, hown, hts, hK, hinj, hA, hfr, hlo, hce, hsl, hrt, hn1, hn2⟩ := hκ
  intro r σ' hr hret H locs ls hP hS hL
  exact lv_imul hx hb hd (k r σ' hr hret H locs ls hP hS hL)
theorem ab_iand (hκ : Gd κ cc nL own ret d) {x y : Int32} (hd : decode cc pc = .ok (.iand, 1)) (k : Ab cv κ (pc + 1) lv (.int (x &&& y) :: st) σ res) : Ab cv κ pc lv (.int y :: .int x :: st) σ res := by
  obtain ⟨p, l, e, R, s, m, args, below, meth, c, cells, slots, Q, D, A, ad, cI, cR⟩ := κ
  obtain ⟨hx, hb, hml, hown, hts, hK, hinj, hA, hfr, hlo, hce, hsl, hrt, hn1, hn2⟩ := hκ
  intro r σ' hr hret H locs ls hP hS hL
  exact lv_iand hx hb hd (k r σ' hr hret H locs ls hP hS hL)
theorem ab_ior (hκ : Gd κ cc nL own ret d) {x y : Int32} (hd : decode cc pc = .ok (.ior, 1)) (k : Ab cv κ (pc + 1) lv (.int (x ||| y) :: st) σ res) : Ab cv κ pc lv (.int y :: .int x :: st) σ res := by
  obtain ⟨p, l, e, R, s, m, args, below, meth, c, cells, slots, Q, D, A, ad, cI, cR⟩ := κ
  obtain ⟨hx, hb, hml, hown, hts, hK, hinj, hA, hfr, hlo, hce, hsl, hrt, hn1, hn2⟩ := hκ
  intro r σ' hr hret H locs ls hP hS hL
  exact lv_ior hx hb hd (k r σ' hr hret H locs ls hP hS hL)
theorem ab_ixor (hκ : Gd κ cc nL own ret d) {x y : Int32} (hd : decode cc pc = .ok (.ixor, 1)) (k : Ab cv κ (pc + 1) lv (.int (x ^^^ y) :: st) σ res) : Ab cv κ pc lv (.int y :: .int x :: st) σ res := by
  obtain ⟨p, l, e, R, s, m, args, below, meth, c, cells, slots, Q, D, A, ad, cI, cR⟩ := κ
  obtain ⟨hx, hb, hml, hown, hts, hK, hinj, hA, hfr, hlo, hce, hsl, hrt, hn1, hn2⟩ := hκ
  intro r σ' hr hret H locs ls hP hS hL
  exact lv_ixor hx hb hd (k r σ' hr hret H locs ls hP hS hL)
theorem ab_ishl (hκ : Gd κ cc nL own ret d) {x y : Int32} (hd : decode cc pc = .ok (.ishl, 1)) (k : Ab cv κ (pc + 1) lv (.int (x <<< (y &&& 31)) :: st) σ res) : Ab cv κ pc lv (.int y :: .int x :: st) σ res := by
  obtain ⟨p, l, e, R, s, m, args, below, meth, c, cells, slots, Q, D, A, ad, cI, cR⟩ := κ
  obtain ⟨hx, hb, hml, hown, hts, hK, hinj, hA, hfr, hlo, hce, hsl, hrt, hn1, hn2⟩ := hκ
  intro r σ' hr hret H locs ls hP hS hL
  exact lv_ishl hx hb hd (k r σ' hr hret H locs ls hP hS hL)
theorem ab_ishr (hκ : Gd κ cc nL own ret d) {x y : Int32} (hd : decode cc pc = .ok (.ishr, 1)) (k : Ab cv κ (pc + 1) lv (.int (x >>> (y &&& 31)) :: st) σ res) : Ab cv κ pc lv (.int y :: .int x :: st) σ res := by
  obtain ⟨p, l, e, R, s, m, args, below, meth, c, cells, slots, Q, D, A, ad, cI, cR⟩ := κ
  obtain ⟨hx, hb, hml, hown, hts, hK, hinj, hA, hfr, hlo, hce, hsl, hrt, hn1, hn2⟩ := hκ
  intro r σ' hr hret H locs ls hP hS hL
  exact lv_ishr hx hb hd (k r σ' hr hret H locs ls hP hS hL)
theorem ab_iushr (hκ : Gd κ cc nL own ret d) {x y : Int32} (hd : decode cc pc = .ok (.iushr, 1)) (k : Ab cv κ (pc + 1) lv (.int (x.toUInt32 >>> (y.toUInt32 &&& Int32.toUInt32 31)).toInt32 :: st) σ res) : Ab cv κ pc lv (.int y :: .int x :: st) σ res := by
  obtain ⟨p, l, e, R, s, m, args, below, meth, c, cells, slots, Q, D, A, ad, cI, cR⟩ := κ
  obtain ⟨hx, hb, hml, hown, hts, hK, hinj, hA, hfr, hlo, hce, hsl, hrt, hn1, hn2⟩ := hκ
  intro r σ' hr hret H locs ls hP hS hL
  exact lv_iushr hx hb hd rfl (k r σ' hr hret H locs ls hP hS hL)
theorem ab_ineg (hκ : Gd κ cc nL own ret d) {x : Int32} (hd : decode cc pc = .ok (.ineg, 1)) (k : Ab cv κ (pc + 1) lv (.int (-x) :: st) σ res) : Ab cv κ pc lv (.int x :: st) σ res := by
  obtain ⟨p, l, e, R, s, m, args, below, meth, c, cells, slots, Q, D, A, ad, cI, cR⟩ := κ
  obtain ⟨hx, hb, hml, hown, hts, hK, hinj, hA, hfr, hlo, hce, hsl, hrt, hn1, hn2⟩ := hκ
  intro r σ' hr hret H locs ls hP hS hL
  exact lv_ineg hx hb hd (k r σ' hr hret H locs ls hP hS hL)
theorem ab_ladd (hκ : Gd κ cc nL own ret d) {x y : Int64} (hd : decode cc pc = .ok (.ladd, 1)) (k : Ab cv κ (pc + 1) lv (.long (x + y) :: st) σ res) : Ab cv κ pc lv (.long y :: .long x :: st) σ res := by
  obtain ⟨p, l, e, R, s, m, args, below, meth, c, cells, slots, Q, D, A, ad, cI, cR⟩ := κ
  obtain ⟨hx, hb, hml, hown, hts, hK, hinj, hA, hfr, hlo, hce, hsl, hrt, hn1, hn2⟩ := hκ
  intro r σ' hr hret H locs ls hP hS hL
  exact lv_ladd hx hb hd (k r σ' hr hret H locs ls hP hS hL)
theorem ab_lsub (hκ : Gd κ cc nL own ret d) {x y : Int64} (hd : decode cc pc = .ok (.lsub, 1)) (k : Ab cv κ (pc + 1) lv (.long (x - y) :: st) σ res) : Ab cv κ pc lv (.long y :: .long x :: st) σ res := by
  obtain ⟨p, l, e, R, s, m, args, below, meth, c, cells, slots, Q, D, A, ad, cI, cR⟩ := κ
  obtain ⟨hx, hb, hml, hown, hts, hK, hinj, hA, hfr, hlo, hce, hsl, hrt, hn1, hn2⟩ := hκ
  intro r σ' hr hret H locs ls hP hS hL
  exact lv_lsub hx hb hd (k r σ' hr hret H locs ls hP hS hL)
theorem ab_lmul (hκ : Gd κ cc nL own ret d) {x y : Int64} (hd : decode cc pc = .ok (.lmul, 1)) (k : Ab cv κ (pc + 1) lv (.long (x * y) :: st) σ res) : Ab cv κ pc lv (.long y :: .long x :: st) σ res := by
  obtain ⟨p, l, e, R, s, m, args, below, meth, c, cells, slots, Q, D, A, ad, cI, cR⟩ := κ
  obtain ⟨hx, hb, hml, hown, hts, hK, hinj, hA, hfr, hlo, hce, hsl, hrt, hn1, hn2⟩ := hκ
  intro r σ' hr hret H locs ls hP hS hL
  exact lv_lmul hx hb hd (k r σ' hr hret H locs ls hP hS hL)
theorem ab_lshl (hκ : Gd κ cc nL own ret d) {x : Int64} {y : Int32} (hd : decode cc pc = .ok (.lshl, 1)) (k : Ab cv κ (pc + 1) lv (.long (x <<< (y.toInt64 &&& 63)) :: st) σ res) : Ab cv κ pc lv (.int y :: .long x :: st) σ res := by
  obtain ⟨p, l, e, R, s, m, args, below, meth, c, cells, slots, Q, D, A, ad, cI, cR⟩ := κ
  obtain ⟨hx, hb, hml, hown, hts, hK, hinj, hA, hfr, hlo, hce, hsl, hrt, hn1, hn2⟩ := hκ
  intro r σ' hr hret H locs ls hP hS hL
  exact lv_lshl hx hb hd rfl (k r σ' hr hret H locs ls hP hS hL)
theorem ab_i2l (hκ : Gd κ cc nL own ret d) {x : Int32} (hd : decode cc pc = .ok (.i2l, 1)) (k : Ab cv κ (pc + 1) lv (.long x.toInt64 :: st) σ res) : Ab cv κ pc lv (.int x :: st) σ res := by
  obtain ⟨p, l, e, R, s, m, args, below, meth, c, cells, slots, Q, D, A, ad, cI, cR⟩ := κ
  obtain ⟨hx, hb, hml, hown, hts, hK, hinj, hA, hfr, hlo, hce, hsl, hrt, hn1, hn2⟩ := hκ
  intro r σ' hr hret H locs ls hP hS hL
  exact lv_i2l hx hb hd rfl (k r σ' hr hret H locs ls hP hS hL)
theorem ab_i2b (hκ : Gd κ cc nL own ret d) {x : Int32} (hd : decode cc pc = .ok (.i2b, 1)) (k : Ab cv κ (pc + 1) lv (.int x.toInt8.toInt32 :: st) σ res) : Ab cv κ pc lv (.int x :: st) σ res := by
  obtain ⟨p, l, e, R, s, m, args, below, meth, c, cells, slots, Q, D, A, ad, cI, cR⟩ := κ
  obtain ⟨hx, hb, hml, hown, hts, hK, hinj, hA, hfr, hlo, hce, hsl, hrt, hn1, hn2⟩ := hκ
  intro r σ' hr hret H locs ls hP hS hL
  exact lv_i2b hx hb hd rfl (k r σ' hr hret H locs ls hP hS hL)
theorem ab_i2s (hκ : Gd κ cc nL own ret d) {x : Int32} (hd : decode cc pc = .ok (.i2s, 1)) (k : Ab cv κ (pc + 1) lv (.int x.toInt16.toInt32 :: st) σ res) : Ab cv κ pc lv (.int x :: st) σ res := by
  obtain ⟨p, l, e, R, s, m, args, below, meth, c, cells, slots, Q, D, A, ad, cI, cR⟩ := κ
  obtain ⟨hx, hb, hml, hown, hts, hK, hinj, hA, hfr, hlo, hce, hsl, hrt, hn1, hn2⟩ := hκ
  intro r σ' hr hret H locs ls hP hS hL
  exact lv_i2s hx hb hd rfl (k r σ' hr hret H locs ls hP hS hL)
theorem ab_lcmp (hκ : Gd κ cc nL own ret d) {x y : Int64} (hd : decode cc pc = .ok (.lcmp, 1)) (k : Ab cv κ (pc + 1) lv (.int (lg_cmp x y) :: st) σ res) : Ab cv κ pc lv (.long y :: .long x :: st) σ res := by
  obtain ⟨p, l, e, R, s, m, args, below, meth, c, cells, slots, Q, D, A, ad, cI, cR⟩ := κ
  obtain ⟨hx, hb, hml, hown, hts, hK, hinj, hA, hfr, hlo, hce, hsl, hrt, hn1, hn2⟩ := hκ
  intro r σ' hr hret H locs ls hP hS hL
  exact W.lcmp hx hb hd (k r σ' hr hret H locs ls hP hS hL)
theorem ab_dupi (hκ : Gd κ cc nL own ret d) {x : Int32} (hd : decode cc pc = .ok (.dup, 1)) (k : Ab cv κ (pc + 1) lv (.int x :: .int x :: st) σ res) : Ab cv κ pc lv (.int x :: st) σ res := by
  obtain ⟨p, l, e, R, s, m, args, below, meth, c, cells, slots, Q, D, A, ad, cI, cR⟩ := κ
  obtain ⟨hx, hb, hml, hown, hts, hK, hinj, hA, hfr, hlo, hce, hsl, hrt, hn1, hn2⟩ := hκ
  intro r σ' hr hret H locs ls hP hS hL
  exact lv_dup hx hb hd rfl (k r σ' hr hret H locs ls hP hS hL)
theorem ab_dupa (hκ : Gd κ cc nL own ret d) {x : Nat} (hd : decode cc pc = .ok (.dup, 1)) (k : Ab cv κ (pc + 1) lv (.ref x :: .ref x :: st) σ res) : Ab cv κ pc lv (.ref x :: st) σ res := by
  obtain ⟨p, l, e, R, s, m, args, below, meth, c, cells, slots, Q, D, A, ad, cI, cR⟩ := κ
  obtain ⟨hx, hb, hml, hown, hts, hK, hinj, hA, hfr, hlo, hce, hsl, hrt, hn1, hn2⟩ := hκ
  intro r σ' hr hret H locs ls hP hS hL
  exact lv_dup hx hb hd rfl (k r σ' hr hret H locs ls hP hS hL)
theorem ab_popi (hκ : Gd κ cc nL own ret d) {x : Int32} (hd : decode cc pc = .ok (.pop, 1)) (k : Ab cv κ (pc + 1) lv (st) σ res) : Ab cv κ pc lv (.int x :: st) σ res := by
  obtain ⟨p, l, e, R, s, m, args, below, meth, c, cells, slots, Q, D, A, ad, cI, cR⟩ := κ
  obtain ⟨hx, hb, hml, hown, hts, hK, hinj, hA, hfr, hlo, hce, hsl, hrt, hn1, hn2⟩ := hκ
  intro r σ' hr hret H locs ls hP hS hL
  exact lv_pop hx hb hd rfl (k r σ' hr hret H locs ls hP hS hL)
theorem ab_popa (hκ : Gd κ cc nL own ret d) {x : Nat} (hd : decode cc pc = .ok (.pop, 1)) (k : Ab cv κ (pc + 1) lv (st) σ res) : Ab cv κ pc lv (.ref x :: st) σ res := by
  obtain ⟨p, l, e, R, s, m, args, below, meth, c, cells, slots, Q, D, A, ad, cI, cR⟩ := κ
  obtain ⟨hx, hb, hml, hown, hts, hK, hinj, hA, hfr, hlo, hce, hsl, hrt, hn1, hn2⟩ := hκ
  intro r σ' hr hret H locs ls hP hS hL
  exact lv_pop hx hb hd rfl (k r σ' hr hret H locs ls hP hS hL)
theorem ab_dup2 (hκ : Gd κ cc nL own ret d) {x : Int32} {y : Nat} (hd : decode cc pc = .ok (.dup2, 1)) (k : Ab cv κ (pc + 1) lv (.int x :: .ref y :: .int x :: .ref y :: st) σ res) : Ab cv κ pc lv (.int x :: .ref y :: st) σ res := by
  obtain ⟨p, l, e, R, s, m, args, below, meth, c, cells, slots, Q, D, A, ad, cI, cR⟩ := κ
  obtain ⟨hx, hb, hml, hown, hts, hK, hinj, hA, hfr, hlo, hce, hsl, hrt, hn1, hn2⟩ := hκ
  intro r σ' hr hret H locs ls hP hS hL
  exact lv_dup2_11 hx hb hd rfl rfl (k r σ' hr hret H locs ls hP hS hL)
theorem ab_idiv (hκ : Gd κ cc nL own ret d) {x y : Int32} (hd : decode cc pc = .ok (.idiv, 1)) (k : Ab cv κ (pc + 1) lv (.int (x / y) :: st) σ res) : Ab cv κ pc lv (.int y :: .int x :: st) σ (sy_dv y res) := by
  obtain ⟨p, l, e, R, s, m, args, below, meth, c, cells, slots, Q, D, A, ad, cI, cR⟩ := κ
  obtain ⟨hx, hb, hml, hown, hts, hK, hinj, hA, hfr, hlo, hce, hsl, hrt, hn1, hn2⟩ := hκ
  intro r σ' hr hret H locs ls hP hS hL
  unfold sy_dv at hr
  by_cases h0 : y = 0
  · rw [if_pos h0] at hr; cases hr
  · rw [if_neg h0] at hr
    exact lv_idiv hx hb hd h0 (k r σ' hr hret H locs ls hP hS hL)
theorem ab_irem (hκ : Gd κ cc nL own ret d) {x y : Int32} (hd : decode cc pc = .ok (.irem, 1)) (k : Ab cv κ (pc + 1) lv (.int (x - x / y * y) :: st) σ res) : Ab cv κ pc lv (.int y :: .int x :: st) σ (sy_dv y res) := by
  obtain ⟨p, l, e, R, s, m, args, below, meth, c, cells, slots, Q, D, A, ad, cI, cR⟩ := κ
  obtain ⟨hx, hb, hml, hown, hts, hK, hinj, hA, hfr, hlo, hce, hsl, hrt, hn1, hn2⟩ := hκ
  intro r σ' hr hret H locs ls hP hS hL
  unfold sy_dv at hr
  by_cases h0 : y = 0
  · rw [if_pos h0] at hr; cases hr
  · rw [if_neg h0] at hr
    exact lv_irem hx hb hd h0 (k r σ' hr hret H locs ls hP hS hL)
theorem ab_ldiv (hκ : Gd κ cc nL own ret d) {x y : Int64} (hd : decode cc pc = .ok (.ldiv, 1)) (k : Ab cv κ (pc + 1) lv (.long (x / y) :: st) σ res) : Ab cv κ pc lv (.long y :: .long x :: st) σ (sy_dl y res) := by
  obtain ⟨p, l, e, R, s, m, args, below, meth, c, cells, slots, Q, D, A, ad, cI, cR⟩ := κ
  obtain ⟨hx, hb, hml, hown, hts, hK, hinj, hA, hfr, hlo, hce, hsl, hrt, hn1, hn2⟩ := hκ
  intro r σ' hr hret H locs ls hP hS hL
  unfold sy_dl at hr
  by_cases h0 : y = 0
  · rw [if_pos h0] at hr; cases hr
  · rw [if_neg h0] at hr
    exact lv_ldiv hx hb hd h0 (k r σ' hr hret H locs ls hP hS hL)
theorem ab_lrem (hκ : Gd κ cc nL own ret d) {x y : Int64} (hd : decode cc pc = .ok (.lrem, 1)) (k : Ab cv κ (pc + 1) lv (.long (x - x / y * y) :: st) σ res) : Ab cv κ pc lv (.long y :: .long x :: st) σ (sy_dl y res) := by
  obtain ⟨p, l, e, R, s, m, args, below, meth, c, cells, slots, Q, D, A, ad, cI, cR⟩ := κ
  obtain ⟨hx, hb, hml, hown, hts, hK, hinj, hA, hfr, hlo, hce, hsl, hrt, hn1, hn2⟩ := hκ
  intro r σ' hr hret H locs ls hP hS hL
  unfold sy_dl at hr
  by_cases h0 : y = 0
  · rw [if_pos h0] at hr; cases hr
  · rw [if_neg h0] at hr
    exact lv_lrem hx hb hd h0 (k r σ' hr hret H locs ls hP hS hL)
theorem ab_if_eq (hκ : Gd κ cc nL own ret d) {x : Int32} {off : Int} {tgt : Nat} (hd : decode cc pc = .ok (.ifCond .eq off, 3)) (ht : (pc : Int) + off = (tgt : Int)) (k1 : Ab cv κ tgt lv st σ r1) (k2 : Ab cv κ (pc + 3) lv st σ r2) : Ab cv κ pc lv (.int x :: st) σ (if x = 0 then r1 else r2) := by
  obtain ⟨p, l, e, R, s, m, args, below, meth, c, cells, slots, Q, D, A, ad, cI, cR⟩ := κ
  obtain ⟨hx, hb, hml, hown, hts, hK, hinj, hA, hfr, hlo, hce, hsl, hrt, hn1, hn2⟩ := hκ
  intro r σ' hr hret H locs ls hP hS hL
  refine lv_if_eq hx hb hd ht (fun h => ?_) (fun h => ?_)
  · exact k1 r σ' (by simpa [h] using hr) hret H locs ls hP hS hL
  · exact k2 r σ' (by simpa [h] using hr) hret H locs ls hP hS hL
theorem ab_if_ne (hκ : Gd κ cc nL own ret d) {x : Int32} {off : Int} {tgt : Nat} (hd : decode cc pc = .ok (.ifCond .ne off, 3)) (ht : (pc : Int) + off = (tgt : Int)) (k1 : Ab cv κ tgt lv st σ r1) (k2 : Ab cv κ (pc + 3) lv st σ r2) : Ab cv κ pc lv (.int x :: st) σ (if x = 0 then r2 else r1) := by
  obtain ⟨p, l, e, R, s, m, args, below, meth, c, cells, slots, Q, D, A, ad, cI, cR⟩ := κ
  obtain ⟨hx, hb, hml, hown, hts, hK, hinj, hA, hfr, hlo, hce, hsl, hrt, hn1, hn2⟩ := hκ
  intro r σ' hr hret H locs ls hP hS hL
  refine lv_if_ne hx hb hd ht (fun h => ?_) (fun h => ?_)
  · exact k1 r σ' (by simpa [h] using hr) hret H locs ls hP hS hL
  · exact k2 r σ' (by simpa [h] using hr) hret H locs ls hP hS hL
theorem ab_if_lt (hκ : Gd κ cc nL own ret d) {x : Int32} {off : Int} {tgt : Nat} (hd : decode cc pc = .ok (.ifCond .lt off, 3)) (ht : (pc : Int) + off = (tgt : Int)) (k1 : Ab cv κ tgt lv st σ r1) (k2 : Ab cv κ (pc + 3) lv st σ r2) : Ab cv κ pc lv (.int x :: st) σ (if x < 0 then r1 else r2) := by
  obtain ⟨p, l, e, R, s, m, args, below, meth, c, cells, slots, Q, D, A, ad, cI, cR⟩ := κ
  obtain ⟨hx, hb, hml, hown, hts, hK, hinj, hA, hfr, hlo, hce, hsl, hrt, hn1, hn2⟩ := hκ
  intro r σ' hr hret H locs ls hP hS hL
  refine lv_if_lt hx hb hd ht (fun h => ?_) (fun h => ?_)
  · exact k1 r σ' (by simpa [h] using hr) hret H locs ls hP hS hL
  · exact k2 r σ' (by simpa [h] using hr) hret H locs ls hP hS hL
theorem ab_if_ge (hκ : Gd κ cc nL own ret d) {x : Int32} {off : Int} {tgt : Nat} (hd : decode cc pc = .ok (.ifCond .ge off, 3)) (ht : (pc : Int) + off = (tgt : Int)) (k1 : Ab cv κ tgt lv st σ r1) (k2 : Ab cv κ (pc + 3) lv st σ r2) : Ab cv κ pc lv (.int x :: st) σ (if 0 ≤ x then r1 else r2) := by
  obtain ⟨p, l, e, R, s, m, args, below, meth, c, cells, slots, Q, D, A, ad, cI, cR⟩ := κ
  obtain ⟨hx, hb, hml, hown, hts, hK, hinj, hA, hfr, hlo, hce, hsl, hrt, hn1, hn2⟩ := hκ
  intro r σ' hr hret H locs ls hP hS hL
  refine lv_if_ge hx hb hd ht (fun h => ?_) (fun h => ?_)
  · exact k1 r σ' (by simpa [h] using hr) hret H locs ls hP hS hL
  · exact k2 r σ' (by simpa [h] using hr) hret H locs ls hP hS hL
theorem ab_if_gt (hκ : Gd κ cc nL own ret d) {x : Int32} {off : Int} {tgt : Nat} (hd : decode cc pc = .ok (.ifCond .gt off, 3)) (ht : (pc : Int) + off = (tgt : Int)) (k1 : Ab cv κ tgt lv st σ r1) (k2 : Ab cv κ (pc + 3) lv st σ r2) : Ab cv κ pc lv (.int x :: st) σ (if 0 < x then r1 else r2) := by
  obtain ⟨p, l, e, R, s, m, args, below, meth, c, cells, slots, Q, D, A, ad, cI, cR⟩ := κ
  obtain ⟨hx, hb, hml, hown, hts, hK, hinj, hA, hfr, hlo, hce, hsl, hrt, hn1, hn2⟩ := hκ
  intro r σ' hr hret H locs ls hP hS hL
  refine lv_if_gt hx hb hd ht (fun h => ?_) (fun h => ?_)
  · exact k1 r σ' (by simpa [h] using hr) hret H locs ls hP hS hL
  · exact k2 r σ' (by simpa [h] using hr) hret H locs ls hP hS hL
theorem ab_if_le (hκ : Gd κ cc nL own ret d) {x : Int32} {off : Int} {tgt : Nat} (hd : decode cc pc = .ok (.ifCond .le off, 3)) (ht : (pc : Int) + off = (tgt : Int)) (k1 : Ab cv κ tgt lv st σ r1) (k2 : Ab cv κ (pc + 3) lv st σ r2) : Ab cv κ pc lv (.int x :: st) σ (if x ≤ 0 then r1 else r2) := by
  obtain ⟨p, l, e, R, s, m, args, below, meth, c, cells, slots, Q, D, A, ad, cI, cR⟩ := κ
  obtain ⟨hx, hb, hml, hown, hts, hK, hinj, hA, hfr, hlo, hce, hsl, hrt, hn1, hn2⟩ := hκ
  intro r σ' hr hret H locs ls hP hS hL
  refine lv_if_le hx hb hd ht (fun h => ?_) (fun h => ?_)
  · exact k1 r σ' (by simpa [h] using hr) hret H locs ls hP hS hL
  · exact k2 r σ' (by simpa [h] using hr) hret H locs ls hP hS hL
theorem ab_icmp_eq (hκ : Gd κ cc nL own ret d) {x y : Int32} {off : Int} {tgt : Nat} (hd : decode cc pc = .ok (.if_icmp .eq off, 3)) (ht : (pc : Int) + off = (tgt : Int)) (k1 : Ab cv κ tgt lv st σ r1) (k2 : Ab cv κ (pc + 3) lv st σ r2) : Ab cv κ pc lv (.int y :: .int x :: st) σ (if x = y then r1 else r2) := by
  obtain ⟨p, l, e, R, s, m, args, below, meth, c, cells, slots, Q, D, A, ad, cI, cR⟩ := κ
  obtain ⟨hx, hb, hml, hown, hts, hK, hinj, hA, hfr, hlo, hce, hsl, hrt, hn1, hn2⟩ := hκ
  intro r σ' hr hret H locs ls hP hS hL
  refine lv_icmp_eq hx hb hd ht (fun h => ?_) (fun h => ?_)
  · exact k1 r σ' (by simpa [h] using hr) hret H locs ls hP hS hL
  · exact k2 r σ' (by simpa [h] using hr) hret H locs ls hP hS hL
theorem ab_icmp_ne (hκ : Gd κ cc nL own ret d) {x y : Int32} {off : Int} {tgt : Nat} (hd : decode cc pc = .ok (.if_icmp .ne off, 3)) (ht : (pc : Int) + off = (tgt : Int)) (k1 : Ab cv κ tgt lv st σ r1) (k2 : Ab cv κ (pc + 3) lv st σ r2) : Ab cv κ pc lv (.int y :: .int x :: st) σ (if x = y then r2 else r1) := by
  obtain ⟨p, l, e, R, s, m, args, below, meth, c, cells, slots, Q, D, A, ad, cI, cR⟩ := κ
  obtain ⟨hx, hb, hml, hown, hts, hK, hinj, hA, hfr, hlo, hce, hsl, hrt, hn1, hn2⟩ := hκ
  intro r σ' hr hret H locs ls hP hS hL
  refine lv_icmp_ne hx hb hd ht (fun h => ?_) (fun h => ?_)
  · exact k1 r σ' (by simpa [h] using hr) hret H locs ls hP hS hL
  · exact k2 r σ' (by simpa [h] using hr) hret H locs ls hP hS hL
theorem ab_icmp_lt (hκ : Gd κ cc nL own ret d) {x y : Int32} {off : Int} {tgt : Nat} (hd : decode cc pc = .ok (.if_icmp .lt off, 3)) (ht : (pc : Int) + off = (tgt : Int)) (k1 : Ab cv κ tgt lv st σ r1) (k2 : Ab cv κ (pc + 3) lv st σ r2) : Ab cv κ pc lv (.int y :: .int x :: st) σ (if x < y then r1 else r2) := by
  obtain ⟨p, l, e, R, s, m, args, below, meth, c, cells, slots, Q, D, A, ad, cI, cR⟩ := κ
  obtain ⟨hx, hb, hml, hown, hts, hK, hinj, hA, hfr, hlo, hce, hsl, hrt, hn1, hn2⟩ := hκ
  intro r σ' hr hret H locs ls hP hS hL
  refine lv_icmp_lt hx hb hd ht (fun h => ?_) (fun h => ?_)
  · exact k1 r σ' (by simpa [h] using hr) hret H locs ls hP hS hL
  · exact k2 r σ' (by simpa [h] using hr) hret H locs ls hP hS hL
theorem ab_icmp_ge (hκ : Gd κ cc nL own ret d) {x y : Int32} {off : Int} {tgt : Nat} (hd : decode cc pc = .ok (.if_icmp .ge off, 3)) (ht : (pc : Int) + off = (tgt : Int)) (k1 : Ab cv κ tgt lv st σ r1) (k2 : Ab cv κ (pc + 3) lv st σ r2) : Ab cv κ pc lv (.int y :: .int x :: st) σ (if y ≤ x then r1 else r2) := by
  obtain ⟨p, l, e, R, s, m, args, below, meth, c, cells, slots, Q, D, A, ad, cI, cR⟩ := κ
  obtain ⟨hx, hb, hml, hown, hts, hK, hinj, hA, hfr, hlo, hce, hsl, hrt, hn1, hn2⟩ := hκ
  intro r σ' hr hret H locs ls hP hS hL
  refine lv_icmp_ge hx hb hd ht (fun h => ?_) (fun h => ?_)
  · exact k1 r σ' (by simpa [h] using hr) hret H locs ls hP hS hL
  · exact k2 r σ' (by simpa [h] using hr) hret H locs ls hP hS hL
theorem ab_icmp_gt (hκ : Gd κ cc nL own ret d) {x y : Int32} {off : Int} {tgt : Nat} (hd : decode cc pc = .ok (.if_icmp .gt off, 3)) (ht : (pc : Int) + off = (tgt : Int)) (k1 : Ab cv κ tgt lv st σ r1) (k2 : Ab cv κ (pc + 3) lv st σ r2) : Ab cv κ pc lv (.int y :: .int x :: st) σ (if y < x then r1 else r2) := by
  obtain ⟨p, l, e, R, s, m, args, below, meth, c, cells, slots, Q, D, A, ad, cI, cR⟩ := κ
  obtain ⟨hx, hb, hml, hown, hts, hK, hinj, hA, hfr, hlo, hce, hsl, hrt, hn1, hn2⟩ := hκ
  intro r σ' hr hret H locs ls hP hS hL
  refine lv_icmp_gt hx hb hd ht (fun h => ?_) (fun h => ?_)
  · exact k1 r σ' (by simpa [h] using hr) hret H locs ls hP hS hL
  · exact k2 r σ' (by simpa [h] using hr) hret H locs ls hP hS hL
theorem ab_icmp_le (hκ : Gd κ cc nL own ret d) {x y : Int32} {off : Int} {tgt : Nat} (hd : decode cc pc = .ok (.if_icmp .le off, 3)) (ht : (pc : Int) + off = (tgt : Int)) (k1 : Ab cv κ tgt lv st σ r1) (k2 : Ab cv κ (pc + 3) lv st σ r2) : Ab cv κ pc lv (.int y :: .int x :: st) σ (if x ≤ y then r1 else r2) := by
  obtain ⟨p, l, e, R, s, m, args, below, meth, c, cells, slots, Q, D, A, ad, cI, cR⟩ := κ
  obtain ⟨hx, hb, hml, hown, hts, hK, hinj, hA, hfr, hlo, hce, hsl, hrt, hn1, hn2⟩ := hκ
  intro r σ' hr hret H locs ls hP hS hL
  refine lv_icmp_le hx hb hd ht (fun h => ?_) (fun h => ?_)
  · exact k1 r σ' (by simpa [h] using hr) hret H locs ls hP hS hL
  · exact k2 r σ' (by simpa [h] using hr) hret H locs ls hP hS hL
theorem ab_goto (hκ : Gd κ cc nL own ret d) {off : Int} {tgt : Nat} (hd : decode cc pc = .ok (.goto off, 3)) (ht : (pc : Int) + off = (tgt : Int)) (k : Ab cv κ tgt lv st σ res) : Ab cv κ pc lv st σ res := by
  obtain ⟨p, l, e, R, s, m, args, below, meth, c, cells, slots, Q, D, A, ad, cI, cR⟩ := κ
  obtain ⟨hx, hb, hml, hown, hts, hK, hinj, hA, hfr, hlo, hce, hsl, hrt, hn1, hn2⟩ := hκ
  intro r σ' hr hret H locs ls hP hS hL
  exact lv_goto hx hb hd ht (k r σ' hr hret H locs ls hP hS hL)
theorem ab_iald (hκ : Gd κ cc nL own ret d) {k n : Nat} {i : Int32} (hsh : sy_shp[k]? = some (.inl n)) (hd : decode cc pc = .ok (.iaload, 1)) (kk : Ab cv κ (pc + 1) lv (.int (σ k (sy_ix i)) :: st) σ res) : Ab cv κ pc lv (.int i :: .ref k :: st) σ (sy_gd i n res) := by
  obtain ⟨p, l, e, R, s, m, args, below, meth, c, cells, slots, Q, D, A, ad, cI, cR⟩ := κ
  obtain ⟨hx, hb, hml, hown, hts, hK, hinj, hA, hfr, hlo, hce, hsl, hrt, hn1, hn2⟩ := hκ
  intro r σ' hr hret H locs ls hP hS hL
  unfold sy_gd at hr
  by_cases h0 : i < 0 ∨ n ≤ i.toNatClampNeg
  · rw [if_pos h0] at hr; cases hr
  · rw [if_neg h0] at hr
    exact va_iald hx hb hK hP k 0 (sy_w_at hsh) rfl h0 hd (kk r σ' hr hret H locs ls hP hS hL)
theorem ab_iast (hκ : Gd κ cc nL own ret d) {k n : Nat} {i x : Int32} (hsh : sy_shp[k]? = some (.inl n)) (hd : decode cc pc = .ok (.iastore, 1)) (kk : Ab cv κ (pc + 1) lv st (sy_sf σ k (sy_ix i) x) res) : Ab cv κ pc lv (.int x :: .int i :: .ref k :: st) σ (sy_gd i n res) := by
  obtain ⟨p, l, e, R, s, m, args, below, meth, c, cells, slots, Q, D, A, ad, cI, cR⟩ := κ
  obtain ⟨hx, hb, hml, hown, hts, hK, hinj, hA, hfr, hlo, hce, hsl, hrt, hn1, hn2⟩ := hκ
  intro r σ' hr hret H locs ls hP hS hL
  unfold sy_gd at hr
  by_cases h0 : i < 0 ∨ n ≤ i.toNatClampNeg
  · rw [if_pos h0] at hr; cases hr
  · rw [if_neg h0] at hr
    refine va_iast hx hb hK hP (sy_D hinj hA) hS k 0 (sy_w_at hsh) rfl h0 hd (fun H1 locs1 hP1 hD1 hS1 => ?_)
    rw [sy_w_set (f := upd (σ k) (sy_ix i) x) hsh (by unfold sy_ce; rw [sy_up_s])] at hP1
    exact kk r σ' hr hret H1 locs1 ls hP1 hS1 hL
theorem ab_aald (hκ : Gd κ cc nL own ret d) {k n a b : Nat} {i : Int32} (hsh : sy_shp[k]? = some (.inr (.inl (n, a, b)))) (hd : decode cc pc = .ok (.aaload, 1)) (kk : ¬ (i < 0 ∨ n ≤ i.toNatClampNeg) → Ab cv κ (pc + 1) lv (.ref (a + b * sy_ix i) :: st) σ res) : Ab cv κ pc lv (.int i :: .ref k :: st) σ (sy_gd i n res) := by
  obtain ⟨p, l, e, R, s, m, args, below, meth, c, cells, slots, Q, D, A, ad, cI, cR⟩ := κ
  obtain ⟨hx, hb, hml, hown, hts, hK, hinj, hA, hfr, hlo, hce, hsl, hrt, hn1, hn2⟩ := hκ
  intro r σ' hr hret H locs ls hP hS hL
  unfold sy_gd at hr
  by_cases h0 : i < 0 ∨ n ≤ i.toNatClampNeg
  · rw [if_pos h0] at hr; cases hr
  · rw [if_neg h0] at hr
    exact va_aldq hx hb hK hP k 1 (sy_w_at hsh) rfl h0 hd (kk h0 r σ' hr hret H locs ls hP hS hL)
theorem ab_alen (hκ : Gd κ cc nL own ret d) {k n : Nat} (hsh : sy_shp[k]? = some (.inl n)) (hd : decode cc pc = .ok (.arraylength, 1)) (kk : Ab cv κ (pc + 1) lv (.int (nI n) :: st) σ res) : Ab cv κ pc lv (.ref k :: st) σ res := by
  obtain ⟨p, l, e, R, s, m, args, below, meth, c, cells, slots, Q, D, A, ad, cI, cR⟩ := κ
  obtain ⟨hx, hb, hml, hown, hts, hK, hinj, hA, hfr, hlo, hce, hsl, hrt, hn1, hn2⟩ := hκ
  intro r σ' hr hret H locs ls hP hS hL
  exact va_alen hx hb hK hP k 0 (sy_w_at hsh) rfl rfl hd (kk r σ' hr hret H locs ls hP hS hL)
theorem ab_copy (hκ : Gd κ cc nL own ret d) {k0 n0 k1 n1 i : Nat} {sp dp n : Int32} (h0 : sy_shp[k0]? = some (.inl n0)) (h1 : sy_shp[k1]? = some (.inl n1)) (hd : decode cc pc = .ok (.invokestatic i, 3)) (hl : Cond.methodLink own i arraycopyName ∈ sy_T) (hd1 : 1 ≤ d) (hst : (st.map Value.category).sum ≤ 8) (kk : Ab cv κ (pc + 3) lv st (sy_cp σ k0 sp k1 dp n) res) : Ab cv κ pc lv (.int n :: .int dp :: .ref k1 :: .int sp :: .ref k0 :: st) σ (sy_cg sp dp n n0 n1 res) := by
  obtain ⟨p, l, e, R, s, m, args, below, meth, c, cells, slots, Q, D, A, ad, cI, cR⟩ := κ
  obtain ⟨hx, hb, hml, hown, hts, hK, hinj, hA, hfr, hlo, hce, hsl, hrt, hn1, hn2⟩ := hκ
  intro r σ' hr hret H locs ls hP hS hL
  unfold sy_cg at hr
  by_cases hc : sp < 0 ∨ dp < 0 ∨ n < 0 ∨ n0 < sp.toNatClampNeg + n.toNatClampNeg ∨ n1 < dp.toNatClampNeg + n.toNatClampNeg
  · rw [if_pos hc] at hr; cases hr
  · rw [if_neg hc] at hr
    have g1 : ¬ sp < 0 := fun h => hc (Or.inl h)
    have g2 : ¬ dp < 0 := fun h => hc (Or.inr (Or.inl h))
    have g3 : ¬ n < 0 := fun h => hc (Or.inr (Or.inr (Or.inl h)))
    have g4 : sp.toNatClampNeg + n.toNatClampNeg ≤ n0 := Nat.not_lt.mp fun h => hc (Or.inr (Or.inr (Or.inr (Or.inl h))))
    have g5 : dp.toNatClampNeg + n.toNatClampNeg ≤ n1 := Nat.not_lt.mp fun h => hc (Or.inr (Or.inr (Or.inr (Or.inr h))))
    have hst2 : (((st.map (sy_vm ad)).map fun v => v.category).sum) ≤ 8 := by
      rw [List.map_map, show ((fun v => v.category) ∘ sy_vm ad) = Value.category from funext (sy_vm_cat ad)]
      exact hst
    refine va_copyi hx hb (by rw [hL.1]) hown (hts _ hl) (hts _ sy_m_nat) (hts _ sy_m_stat) (hts _ sy_m_ini) hK hP (sy_D hinj hA) hS k0 k1 0 0 (sy_w_at h0) (sy_w_at h1) rfl rfl rfl g1 g2 g3 g4 g5 (fun _ _ => rfl) (by omega) (by have hw : nativeFrameWords "java/lang/System" "arraycopy" 5 ≤ 20 := (by decide); omega) hd (fun H1 locs1 hP1 hD1 hS1 => ?_)
    rw [sy_w_set (f := va_cpy (σ k0) (σ k1) sp.toNatClampNeg dp.toNatClampNeg n.toNatClampNeg) h1 (by unfold sy_ce; rw [sy_up_s])] at hP1
    exact kk r σ' hr hret H1 locs1 ls hP1 hS1 hL
/-- what a class's tables say -/
def sy_CI (ci : Nat) (C : String) (T : u_T) (N : Nat) (ty : Nat → FieldType) : Prop := vwCl[ci]? = some (C, T, N) ∧ (∀ w ∈ u_ws C T N, w ∈ sy_T) ∧ (∀ k, k < N → parseFieldDescriptor (T k).2.2.1 = some (ty k)) ∧ (∀ a, a < N → ∀ b, b < N → a ≠ b → (T a).2.1 ≠ (T b).2.1)
/-- field number k of class ci, named by entry idx of own's pool; one that isn't final -/
def sy_FR (own : String) (idx ci k : Nat) : Prop := ∃ (C : String) (T : u_T) (N : Nat) (ty : Nat → FieldType), sy_CI ci C T N ty ∧ k < N ∧ Cond.fieldLink own idx (T k).1 (T k).2.1 (T k).2.2.1 ∈ sy_T
def sy_FP (own : String) (idx ci k : Nat) (t : FieldType) : Prop := ∃ (C : String) (T : u_T) (N : Nat) (ty : Nat → FieldType), sy_CI ci C T N ty ∧ k < N ∧ Cond.fieldLink own idx (T k).1 (T k).2.1 (T k).2.2.1 ∈ sy_T ∧ (T k).2.2.2 = false ∧ ty k = t
theorem ab_getf {k ci idx j : Nat} {fk : List (Option Nat)} {o : Option Nat} (hκ : Gd κ cc nL own ret d) (hsh : sy_shp[k]? = some (.inr (.inr (ci, fk)))) (hF : sy_FR own idx ci j) (hj : fk[j]? = some o) (hd : decode cc pc = .ok (.getfield idx, 3)) {v : Value} (hv : (match o with | some off => Value.ref (k + off) | none => .int (σ k j)) = v) (kk : Ab cv κ (pc + 3) lv (v :: st) σ res) : Ab cv κ pc lv (.ref k :: st) σ res := by
  obtain ⟨p, l, e, R, s, m, args, below, meth, c, cells, slots, Q, D, A, ad, cI, cR⟩ := κ
  obtain ⟨hx, hb, hml, hown, hts, hK, hinj, hA, hfr, hlo, hce, hsl, hrt, hn1, hn2⟩ := hκ
  intro r σ' hr hret H locs ls hP hS hL
  obtain ⟨C, T, N, ty, ⟨c1, c2, c3, c4⟩, hk, hl⟩ := hF
  have hfs : (sy_fl ad σ k fk)[j]? = some (sy_vm ad v) := by
    unfold sy_fl
    rw [List.getElem?_mapIdx, hj, ← hv]
    cases o <;> rfl
  exact va_get hx hb hts c2 hown hK hP k (sy_w_at hsh) c1 j hk (hts _ hl) (fun _ h9 => h9) hfs hd (kk r σ' hr hret H locs ls hP hS hL)
theorem ab_putf {k ci idx j : Nat} {fk : List (Option Nat)} {x : Int32} (hκ : Gd κ cc nL own ret d) (hsh : sy_shp[k]? = some (.inr (.inr (ci, fk)))) (hF : sy_FP own idx ci j .int) (hj : fk[j]? = some none) (hd : decode cc pc = .ok (.putfield idx, 3)) (kk : Ab cv κ (pc + 3) lv st (sy_sf σ k j x) res) : Ab cv κ pc lv (.int x :: .ref k :: st) σ res := by
  obtain ⟨p, l, e, R, s, m, args, below, meth, c, cells, slots, Q, D, A, ad, cI, cR⟩ := κ
  obtain ⟨hx, hb, hml, hown, hts, hK, hinj, hA, hfr, hlo, hce, hsl, hrt, hn1, hn2⟩ := hκ
  intro r σ' hr hret H locs ls hP hS hL
  obtain ⟨C, T, N, ty, ⟨c1, c2, c3, c4⟩, hk, hl, hf, ht⟩ := hF
  refine va_put hx hb hts c2 ty c3 c4 hown hK hP (sy_D hinj hA) hS k (sy_w_at hsh) c1 j hk (hts _ hl) (fun _ h9 => h9) hf (c3 j hk) (by rw [ht]; rfl) (by rw [ht]; rfl) (by show j < (sy_fl ad σ k fk).length; unfold sy_fl; rw [List.length_mapIdx]; exact (List.getElem?_eq_some_iff.mp hj).1) hd (fun H1 locs1 hP1 hD1 hS1 => ?_)
  rw [sy_w_set (f := upd (σ k) j x) hsh (by show Sum.inr (ci, (sy_fl ad σ k fk).set j (.int x)) = _; rw [sy_fl_set hj]; rfl)] at hP1
  exact kk r σ' hr hret H1 locs1 ls hP1 hS1 hL
theorem ab_putz {k ci idx j : Nat} {fk : List (Option Nat)} {x : Int32} (hκ : Gd κ cc nL own ret d) (hsh : sy_shp[k]? = some (.inr (.inr (ci, fk)))) (hF : sy_FP own idx ci j .boolean) (hj : fk[j]? = some none) (hd : decode cc pc = .ok (.putfield idx, 3)) (kk : Ab cv κ (pc + 3) lv st (sy_sf σ k j x) res) : Ab cv κ pc lv (.int x :: .ref k :: st) σ (sy_zg x res) := by
  obtain ⟨p, l, e, R, s, m, args, below, meth, c, cells, slots, Q, D, A, ad, cI, cR⟩ := κ
  obtain ⟨hx, hb, hml, hown, hts, hK, hinj, hA, hfr, hlo, hce, hsl, hrt, hn1, hn2⟩ := hκ
  intro r σ' hr hret H locs ls hP hS hL
  obtain ⟨C, T, N, ty, ⟨c1, c2, c3, c4⟩, hk, hl, hf, ht⟩ := hF
  unfold sy_zg at hr
  by_cases hz : x = 0 ∨ x = 1
  · rw [if_pos hz] at hr
    refine va_put hx hb hts c2 ty c3 c4 hown hK hP (sy_D hinj hA) hS k (sy_w_at hsh) c1 j hk (hts _ hl) (fun _ h9 => h9) hf (c3 j hk) (by rw [ht]; rcases hz with rfl | rfl <;> rfl) (by rw [ht]; rcases hz with rfl | rfl <;> rfl) (by show j < (sy_fl ad σ k fk).length; unfold sy_fl; rw [List.length_mapIdx]; exact (List.getElem?_eq_some_iff.mp hj).1) hd (fun H1 locs1 hP1 hD1 hS1 => ?_)
    rw [sy_w_set (f := upd (σ k) j x) hsh (by show Sum.inr (ci, (sy_fl ad σ k fk).set j (.int x)) = _; rw [sy_fl_set hj]; rfl)] at hP1
    exact kk r σ' hr hret H1 locs1 ls hP1 hS1 hL
  · rw [if_neg hz] at hr; cases hr
theorem ab_iret {x : Int32} (hκ : Gd κ cc nL own (some .int) d) (hd : decode cc pc = .ok (.ireturn, 1)) : Ab (α := Int32) sy_vi κ pc lv [.int x] σ (some (x, σ)) := by
  obtain ⟨p, l, e, R, s, m, args, below, meth, c, cells, slots, Q, D, A, ad, cI, cR⟩ := κ
  obtain ⟨hx, hb, hml, hown, hts, hK, hinj, hA, hfr, hlo, hce, hsl, hrt, hn1, hn2⟩ := hκ
  intro r σ' hr hret H locs ls hP hS hL
  cases hr
  exact hret H locs ls pc hP hS ⟨by rw [hb]; exact hd, .int, hrt, rfl⟩
theorem ab_zret {x : Int32} (hκ : Gd κ cc nL own (some .boolean) d) (hd : decode cc pc = .ok (.ireturn, 1)) : Ab (α := Int32) sy_vi κ pc lv [.int x] σ (sy_zg x (some (x, σ))) := by
  obtain ⟨p, l, e, R, s, m, args, below, meth, c, cells, slots, Q, D, A, ad, cI, cR⟩ := κ
  obtain ⟨hx, hb, hml, hown, hts, hK, hinj, hA, hfr, hlo, hce, hsl, hrt, hn1, hn2⟩ := hκ
  intro r σ' hr hret H locs ls hP hS hL
  unfold sy_zg at hr
  by_cases hz : x = 0 ∨ x = 1
  · rw [if_pos hz] at hr
    cases hr
    exact hret H locs ls pc hP hS ⟨by rw [hb]; exact hd, .boolean, hrt, by rcases hz with rfl | rfl <;> rfl⟩
  · rw [if_neg hz] at hr; cases hr
theorem ab_lret {x : Int64} (hκ : Gd κ cc nL own (some .long) d) (hd : decode cc pc = .ok (.lreturn, 1)) : Ab (α := Int64) sy_vl κ pc lv [.long x] σ (some (x, σ)) := by
  obtain ⟨p, l, e, R, s, m, args, below, meth, c, cells, slots, Q, D, A, ad, cI, cR⟩ := κ
  obtain ⟨hx, hb, hml, hown, hts, hK, hinj, hA, hfr, hlo, hce, hsl, hrt, hn1, hn2⟩ := hκ
  intro r σ' hr hret H locs ls hP hS hL
  cases hr
  exact hret H locs ls pc hP hS ⟨by rw [hb]; exact hd, hrt⟩
theorem ab_aret {x : Nat} {n : String} (hκ : Gd κ cc nL own (some (.object n)) d) (hd : decode cc pc = .ok (.areturn, 1)) : Ab (α := Nat) sy_vr κ pc lv [.ref x] σ (some (x, σ)) := by
  obtain ⟨p, l, e, R, s, m, args, below, meth, c, cells, slots, Q, D, A, ad, cI, cR⟩ := κ
  obtain ⟨hx, hb, hml, hown, hts, hK, hinj, hA, hfr, hlo, hce, hsl, hrt, hn1, hn2⟩ := hκ
  intro r σ' hr hret H locs ls hP hS hL
  cases hr
  exact hret H locs ls pc hP hS ⟨by rw [hb]; exact hd, n, hrt⟩
theorem ab_vret (hκ : Gd κ cc nL own none d) (hd : decode cc pc = .ok (.return_, 1)) : Ab (α := Unit) sy_cu κ pc lv [] σ (some ((), σ)) := by
  obtain ⟨p, l, e, R, s, m, args, below, meth, c, cells, slots, Q, D, A, ad, cI, cR⟩ := κ
  obtain ⟨hx, hb, hml, hown, hts, hK, hinj, hA, hfr, hlo, hce, hsl, hrt, hn1, hn2⟩ := hκ
  intro r σ' hr hret H locs ls hP hS hL
  cases hr
  exact hret H locs ls pc hP hS ⟨by rw [hb]; exact hd, hrt⟩
theorem ab_lti {x : Int32} {f : Int32 → Option (α × St)} (h : ∀ x, Ab cv κ pc lv (.int x :: st) σ (f x)) : Ab cv κ pc lv (.int x :: st) σ (sy_lt x f) := h x
theorem ab_ltl {x : Int64} {f : Int64 → Option (α × St)} (h : ∀ x, Ab cv κ pc lv (.long x :: st) σ (f x)) : Ab cv κ pc lv (.long x :: st) σ (sy_lt x f) := h x
theorem ab_lts {f : St → Option (α × St)} (h : ∀ σ, Ab cv κ pc lv st σ (f σ)) : Ab cv κ pc lv st σ (sy_lt σ f) := h σ
end Rows
