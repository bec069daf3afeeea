/-! ===== contracts of methods over the store, calls ===== -/
def sy_RM (d : Nat) : Room := { frames := d, cells := 0, slots := 0, locals := 44 * d }
def sy_A (ad : Nat → Nat) : Nat → Prop := fun q => ∃ k : Nat, k < 81 ∧ q = ad k
def sy_Q (D : va_G) (ad : Nat → Nat) (cI cR : ClassId) (rv : Option Value) (σ' : St) : Array Value → State → Outcome → State → Prop := fun _ st oc t => oc = .returned (rv.map (sy_vm ad)) ∧ va_P D vwCl (sy_w ad cI cR σ') t.heap ∧ va_F (sy_A ad) st t
def sy_Pc (D : va_G) (ad : Nat → Nat) (cI cR : ClassId) (vs : List Value) (σ : St) : Array Value → State → Prop := va_Pc (vs.map (sy_vm ad)) (fun U => va_P D vwCl (sy_w ad cI cR σ) U.heap ∧ va_K D vwCl (sy_ty cI cR) U ∧ va_Nw sy_n1 U ∧ va_Nw sy_n2 U)
/-- the method y, of this code, calling at most d deep, answers as res says -/
def Cok {β : Type} (cw : β → Option Value) (y : MethodName) (cc : ByteArray) (nL : Nat) (ret : Option FieldType) (d : Nat) (vs : List Value) (σ : St) (res : Option (β × St)) : Prop :=
  ∀ (r : β) (σ' : St), res = some (r, σ') → ∀ (l : Launch) (D : va_G) (ad : Nat → Nat) (cI cR : ClassId), (∀ i j : Nat, i < 81 → j < 81 → ad i = ad j → i = j) → Met l y (Cond.code y cc nL ret :: sy_T) (sy_RM d) (sy_Pc D ad cI cR vs σ) (sy_Q D ad cI cR (cw r) σ') 0 0 (sy_A ad)
theorem sy_good : ∀ w ∈ sy_T, (w.onTables && w.keeps) = true ∨ ∃ ty, w = .arrayClass ty := fun w hw => good_of_word (List.mem_filter.mp hw).2
/-- what is fixed of a method that is called: its code's word, its class is ready, how many arguments -/
def sy_MI (y : MethodName) (cc : ByteArray) (nL : Nat) (ret : Option FieldType) (n : Nat) : Prop := Cond.code y cc nL ret ∈ sy_T ∧ Cond.initialized y.cls ∈ sy_T ∧ (y.cls ≠ "java/lang/invoke/MethodHandle" ∧ y.cls ≠ "java/lang/invoke/VarHandle" ∧ (parseMethodDescriptor y.desc).map (fun d => d.parameters.length) = some n) ∧ nL ≤ 25
def sy_MV (y : MethodName) : Prop := Cond.instanceMethod y ∈ sy_T ∧ Cond.selects y.cls y y ∈ sy_T
theorem sy_GI {y : MethodName} {cc : ByteArray} {nL : Nat} {ret : Option FieldType} (h : Cond.code y cc nL ret ∈ sy_T) : GoodIn sy_T (Cond.code y cc nL ret :: sy_T) := by
  intro w hw
  rcases List.mem_cons.mp hw with rfl | hw
  · exact ⟨h, sy_good _ h⟩
  · exact ⟨hw, sy_good _ hw⟩
theorem sy_blind {D : va_G} {ad : Nat → Nat} {cI cR : ClassId} {vs : List Value} {σ : St} : FrameBlind (sy_Pc D ad cI cR vs σ) := fun a U g mk q => by
  obtain ⟨q0, qP, qK, q1, q2⟩ := q
  exact ⟨q0, qP, va_K.moved (u := U) (U := U.calling g mk a) (Vm.Alike.refl U.vm) qK, va_Nw.same (u := U) (U := U.calling g mk a) rfl rfl q1, va_Nw.same (u := U) (U := U.calling g mk a) rfl rfl q2⟩
section Calls2
variable {α β : Type} {cv : α → Option Value} {cw : β → Option Value} {κ : Kx} {cc : ByteArray} {nL d : Nat} {own : String} {ret : Option FieldType} {pc : Nat} {lv : List (Option Value)} {st : List Value} {σ : St}
theorem sy_run {p : Program} {l : Launch} {e : Env} {R : Room} {s : State} {m : MethodId} {args : Array Value} {below : List Frame} {meth : Method} {c : Code} {H : Heap} {locs : List Loc} {cells slots : Nat} {Q : State → Prop} {pc : Nat} {ls : Array Slot} {rest st0 : List Value} {a : Array Value} {A0 : Nat → Prop} {H0 : Heap} {D : va_G} {ad : Nat → Nat} {cI cR : ClassId} {rv : Option Value} {σ' : St}
    (hr : va_Run p l e R s m args below meth c H locs cells slots 0 0 (F0 m pc ls st0) rest (sy_Q D ad cI cR rv σ' a) (sy_A ad)) (hS : va_S A0 H0 H locs) (hA : ∀ k : Nat, k < 81 → A0 (ad k))
    (kk : ∀ (H1 : Heap) (locs1 : List Loc), va_P D vwCl (sy_w ad cI cR σ') H1 → va_S A0 H0 H1 locs1 → W p l e R s m args below meth c H1 locs1 cells slots Q (F0 m (pc + 3) ls ((rv.map (sy_vm ad)).toList ++ rest))) : W p l e R s m args below meth c H locs cells slots Q (F0 m pc ls st0) := by
  intro T hT X
  obtain ⟨v, st₀, t, T', L, h0, X', hL, e1, e2, ⟨hv, hP, hz, hk⟩, st⟩ := hr T hT X
  have hv2 : v = rv.map (sy_vm ad) := Outcome.returned.inj hv
  subst hv2
  rw [h0] at hz hk
  have hf : ∀ q, sy_A ad q → A0 q := by
    rintro q ⟨k, hk, rfl⟩
    exact hA k hk
  obtain ⟨t2, a1, b1⟩ := kk T'.heap (locs ++ L) (by rw [e1]; exact hP)
    ⟨Nat.le_trans hS.1 (by rw [e1]; exact hz), fun q h1 h2 => by rw [e1, hk q (Nat.lt_of_lt_of_le h1 hS.1) (fun z => h2 (hf q z))]; exact hS.2.1 q h1 h2, fun q hq => by
      rcases List.mem_append.mp hq with h | h
      · exact hS.2.2 q h
      · exact hf _ (hL q h)⟩ T' rfl X'
  exact ⟨t2, st t2 a1, b1⟩
theorem sy_cat {ad : Nat → Nat} (h : (st.map Value.category).sum ≤ 8) : (((st.map (sy_vm ad)).map fun v => v.category).sum) ≤ 8 := by
  rw [List.map_map, show ((fun v => v.category) ∘ sy_vm ad) = Value.category from funext (sy_vm_cat ad)]
  exact h
theorem sy_opt (ad : Nat → Nat) (o : Option Value) (st : List Value) : (o.map (sy_vm ad)).toList ++ st.map (sy_vm ad) = (o.toList ++ st).map (sy_vm ad) := by cases o <;> simp
theorem sy_prev {D : va_G} {ad : Nat → Nat} {cI cR : ClassId} {vs : List Value} {s : State} {H : Heap} (hK : va_K D vwCl (sy_ty cI cR) s) (hn1 : va_Nw sy_n1 s) (hn2 : va_Nw sy_n2 s) (hP : va_P D vwCl (sy_w ad cI cR σ) H) : PreS s H (sy_Pc D ad cI cR vs σ) (vs.map (sy_vm ad)) :=
  ⟨sy_blind, fun U hU hW => ⟨rfl, by rw [hU]; exact hP, va_K.moved hW.alike hK, hn1.warmM hW, hn2.warmM hW⟩⟩
/-- a call by invokevirtual -/
theorem ab_cV (hκ : Gd κ cc nL own ret d) {idx k ci n nL' d' : Nat} {y : MethodName} {cc' : ByteArray} {ret' : Option FieldType} {fk : List (Option Nat)} {q : vw_C} {vs stk : List Value} {r1 : Option (β × St)} {f : β → St → Option (α × St)}
    (hd : decode cc pc = .ok (.invokevirtual idx, 3)) (hl : Cond.methodLink own idx y ∈ sy_T) (hI : sy_MI y cc' nL' ret' n) (hV : sy_MV y) (hsh : sy_shp[k]? = some (.inr (.inr (ci, fk)))) (hci : vwCl[ci]? = some q) (hq : y.cls = q.1)
    (hM : Cok cw y cc' nL' ret' d' (.ref k :: vs) σ r1) (hn : vs.length = n) (hdd : d' < d) (hst : (st.map Value.category).sum ≤ 8) (hstk : stk = vs.reverse ++ .ref k :: st)
    (kk : ∀ (x : β) (σ1 : St), Ab cv κ (pc + 3) lv ((cw x).toList ++ st) σ1 (f x σ1)) : Ab cv κ pc lv stk σ (sy_bd r1 f) := by
  obtain ⟨p, l, e, R, s, m, args, below, meth, c, cells, slots, Q, D, A, ad, cI, cR⟩ := κ
  obtain ⟨hx, hb, hml, hown, hts, hK, hinj, hA, hfr, hlo, hce, hsl, hrt, hn1, hn2⟩ := hκ
  intro r σ' hr hret H locs ls hP hS hL
  subst hstk
  cases h1 : r1 with
  | none => rw [h1] at hr; cases hr
  | some z =>
    obtain ⟨x, σ1⟩ := z
    rw [h1] at hr
    have hr : f x σ1 = some (r, σ') := hr
    have hMet := hM x σ1 h1 l D ad cI cR hinj
    obtain ⟨hc, hini, hd3, hn25⟩ := hI
    have hcw : CallW R s args own y.cls idx y cc' nL' ret' (Cond.code y cc' nL' ret' :: sy_T) (sy_RM d') 0 0 n := ⟨callB_of n hts (sy_GI hc) rfl rfl rfl (hts _ hini) (hts _ hl) hd3 ⟨by show d' + 1 ≤ R.frames; omega, by show 8 + (nL' + 11) + 44 * d' ≤ R.locals; omega⟩, hts _ hV.1, hts _ hV.2⟩
    have hpre := sy_prev (vs := .ref k :: vs) hK hn1 hn2 hP
    have hrecv := va_recv hK hP hci (sy_w_at hsh)
    rw [← hq] at hrecv
    refine sy_run (va_runV (As := vs.map (sy_vm ad)) (b := ad k) (rest := st.map (sy_vm ad)) ⟨hx, hb, hml, hown, hts⟩ hMet hcw ⟨hpre.1, hrecv, hpre.2⟩ rfl (by rw [List.length_map]; exact hn) (hL.1.trans hml) (by simp [sy_vm]) (lv_room (sy_cat hst)) hd ⟨by omega, by omega⟩) hS hA (fun H1 locs1 hP1 hS1 => ?_)
    rw [sy_opt]
    exact kk x σ1 r σ' hr hret H1 locs1 ls hP1 hS1 hL
/-- a call by invokestatic, of a method that the class may link -/
theorem ab_cS (hκ : Gd κ cc nL own ret d) {idx n nL' d' : Nat} {y : MethodName} {cc' : ByteArray} {ret' : Option FieldType} {vs stk : List Value} {r1 : Option (β × St)} {f : β → St → Option (α × St)}
    (hd : decode cc pc = .ok (.invokestatic idx, 3)) (hl : Cond.methodLink own idx y ∈ sy_T) (hI : sy_MI y cc' nL' ret' n) (hV : Cond.static y ∈ sy_T)
    (hM : Cok cw y cc' nL' ret' d' vs σ r1) (hn : vs.length = n) (hdd : d' < d) (hst : (st.map Value.category).sum ≤ 8) (hstk : stk = vs.reverse ++ st)
    (kk : ∀ (x : β) (σ1 : St), Ab cv κ (pc + 3) lv ((cw x).toList ++ st) σ1 (f x σ1)) : Ab cv κ pc lv stk σ (sy_bd r1 f) := by
  obtain ⟨p, l, e, R, s, m, args, below, meth, c, cells, slots, Q, D, A, ad, cI, cR⟩ := κ
  obtain ⟨hx, hb, hml, hown, hts, hK, hinj, hA, hfr, hlo, hce, hsl, hrt, hn1, hn2⟩ := hκ
  intro r σ' hr hret H locs ls hP hS hL
  subst hstk
  cases h1 : r1 with
  | none => rw [h1] at hr; cases hr
  | some z =>
    obtain ⟨x, σ1⟩ := z
    rw [h1] at hr
    have hr : f x σ1 = some (r, σ') := hr
    have hMet := hM x σ1 h1 l D ad cI cR hinj
    obtain ⟨hc, hini, hd3, hn25⟩ := hI
    have hcw : CallB R s args own idx y cc' nL' ret' (Cond.code y cc' nL' ret' :: sy_T) (sy_RM d') 0 0 n ∧ (Cond.static y).before args s = true := ⟨callB_of n hts (sy_GI hc) rfl rfl rfl (hts _ hini) (hts _ hl) hd3 ⟨by show d' + 1 ≤ R.frames; omega, by show 8 + (nL' + 11) + 44 * d' ≤ R.locals; omega⟩, hts _ hV⟩
    refine sy_run (va_runS (As := vs.map (sy_vm ad)) (rest := st.map (sy_vm ad)) ⟨hx, hb, hml, hown, hts⟩ hMet hcw (sy_prev hK hn1 hn2 hP) rfl (by rw [List.length_map]; exact hn) (hL.1.trans hml) (by simp) (lv_room (sy_cat hst)) hd ⟨by omega, by omega⟩) hS hA (fun H1 locs1 hP1 hS1 => ?_)
    rw [sy_opt]
    exact kk x σ1 r σ' hr hret H1 locs1 ls hP1 hS1 hL
/-- a call by invokestatic, of a nest mate's private method -/
theorem ab_cN (hκ : Gd κ cc nL own ret d) {idx n nL' d' : Nat} {y : MethodName} {host : String} {cc' : ByteArray} {ret' : Option FieldType} {vs stk : List Value} {r1 : Option (β × St)} {f : β → St → Option (α × St)}
    (hd : decode cc pc = .ok (.invokestatic idx, 3)) (hl : ∀ s : State, va_Nw sy_n1 s → va_Nw sy_n2 s → va_Nw (Cond.methodLinkNest own idx y host) s) (hI : sy_MI y cc' nL' ret' n) (hV : Cond.static y ∈ sy_T)
    (hM : Cok cw y cc' nL' ret' d' vs σ r1) (hn : vs.length = n) (hdd : d' < d) (hst : (st.map Value.category).sum ≤ 8) (hstk : stk = vs.reverse ++ st)
    (kk : ∀ (x : β) (σ1 : St), Ab cv κ (pc + 3) lv ((cw x).toList ++ st) σ1 (f x σ1)) : Ab cv κ pc lv stk σ (sy_bd r1 f) := by
  obtain ⟨p, l, e, R, s, m, args, below, meth, c, cells, slots, Q, D, A, ad, cI, cR⟩ := κ
  obtain ⟨hx, hb, hml, hown, hts, hK, hinj, hA, hfr, hlo, hce, hsl, hrt, hn1, hn2⟩ := hκ
  intro r σ' hr hret H locs ls hP hS hL
  subst hstk
  cases h1 : r1 with
  | none => rw [h1] at hr; cases hr
  | some z =>
    obtain ⟨x, σ1⟩ := z
    rw [h1] at hr
    have hr : f x σ1 = some (r, σ') := hr
    have hMet := hM x σ1 h1 l D ad cI cR hinj
    obtain ⟨hc, hini, hd3, hn25⟩ := hI
    have hNw : va_Nw (Cond.methodLinkNest own idx y host) s := hl s hn1 hn2
    have hcw : va_CN R s args own idx y host cc' nL' ret' (Cond.code y cc' nL' ret' :: sy_T) (sy_RM d') 0 0 n := va_cnB n hts (sy_GI hc) rfl rfl rfl hNw (hts _ hini) hd3 ⟨by show d' + 1 ≤ R.frames; omega, by show 8 + (nL' + 11) + 44 * d' ≤ R.locals; omega⟩
    refine sy_run (va_runSN (As := vs.map (sy_vm ad)) (rest := st.map (sy_vm ad)) ⟨hx, hb, hml, hown, hts⟩ hMet ⟨hcw, hts _ hV, trivial⟩ (sy_prev hK hn1 hn2 hP) rfl (by rw [List.length_map]; exact hn) (hL.1.trans hml) (by simp) (lv_room (sy_cat hst)) hd ⟨by omega, by omega⟩) hS hA (fun H1 locs1 hP1 hS1 => ?_)
    rw [sy_opt]
    exact kk x σ1 r σ' hr hret H1 locs1 ls hP1 hS1 hL
/-- the contract out of the walk -/
theorem cok_of {y : MethodName} {vs : List Value} {res : Option (β × St)} (hy : plainName y.cls = true) (hown : y.cls = own) (hvs : ∀ ad : Nat → Nat, (lg_sl (vs.map (sy_vm ad))).length ≤ nL)
    (hab : ∀ κ : Kx, Gd κ cc nL own ret d → Ab cw κ 0 (sy_ent vs nL) [] σ res) : Cok cw y cc nL ret d vs σ res := by
  intro r σ' hres l D ad cI cR hinj
  refine Met.ofW (cc := cc) (maxL := nL) (ret := ret) hy rfl ?_
  intro p e s m args below meth c s₁ B hml hv
  obtain ⟨rfl, hP, hK, hn1, hn2⟩ := hv
  have hx := B.exec
  have hb := B.bytes
  have hr := B.returns
  have hts0 := atoms_spec (ws := Cond.code y cc nL ret :: sy_T) B.pre
  have hts : ∀ w ∈ sy_T, w.before (vs.map (sy_vm ad)).toArray s = true := fun w h => hts0 w (List.mem_cons_of_mem _ h)
  have hown2 : s.vm.findClass own = some m.cls := by rw [← hown]; exact findClass_of_methodNamed B.named
  have hlocks := B.notSynchronized
  have hA : ∀ k : Nat, k < 81 → sy_A ad (ad k) := fun k hk => ⟨k, hk, rfl⟩
  have hl := lv_entry (vs.map (sy_vm ad)) (n := nL) (hvs ad)
  rw [lg_entry_eq]
  generalize (lg_sl (vs.map (sy_vm ad)) ++ List.replicate (nL - (lg_sl (vs.map (sy_vm ad))).length) Slot.unset).toArray = ls at hl ⊢
  have hL : sy_hs ad c.maxLocals ls (sy_ent vs nL) := ⟨hl.1.trans hml.symm, hl.2.1, fun i v h => by have := hl.2.2 _ (sy_ent_at ad vs nL 0 i v h); simpa using this⟩
  have hab2 := hab (p, l, e, sy_RM d, s, m, (vs.map (sy_vm ad)).toArray, below, meth, c, 0, 0, MQ below (sy_Q D ad cI cR (cw r) σ') (vs.map (sy_vm ad)).toArray s 0 0 (sy_A ad), D, sy_A ad, ad, cI, cR) ⟨hx, hb, hml, hown2, hts, hK, hinj, hA, Nat.le_refl _, Nat.le_refl _, Nat.le_refl _, Nat.le_refl _, hr, hn1, hn2⟩
  refine hab2 r σ' hres ?_ s.heap [] ls hP va_S.rf hL
  intro H locs ls pc' hP hS hri
  have hq : ∀ t : State, t.heap = H → s.WarmedH t.vm → sy_Q D ad cI cR (cw r) σ' (vs.map (sy_vm ad)).toArray s (.returned ((cw r).map (sy_vm ad))) t := fun t ht hW => ⟨rfl, by rw [ht]; exact hP, hS.F ht⟩
  rw [hb, hr] at hri
  generalize cw r = rv at hri hq ⊢
  match rv, hri with
  | none, hri => exact W.vret hx rfl (hr.trans hri.2) hq hS.2.2 (by rw [hb]; exact hri.1)
  | some (.int v), hri =>
    obtain ⟨hd, ty, h1, h2⟩ := hri
    exact W.zret hx rfl (hr.trans h1) h2 hq hS.2.2 (by rw [hb]; exact hd)
  | some (.long v), hri => exact W.lret hx rfl (hr.trans hri.2) hq hS.2.2 (by rw [hb]; exact hri.1)
  | some (.ref v), hri =>
    obtain ⟨hd, n, h1⟩ := hri
    exact W.aret hx rfl (hr.trans h1) (Or.inl ⟨n, rfl⟩) (Or.inr ⟨_, rfl⟩) hq hS.2.2 (by rw [hb]; exact hd)
end Calls2
/-! ===== switches ===== -/
section Sw
variable {α : Type} {cv : α → Option Value} {κ : Kx} {cc : ByteArray} {nL d : Nat} {own : String} {ret : Option FieldType} {pc : Nat} {lv : List (Option Value)} {st : List Value} {σ : St}
def sy_sw {γ : Type} (x : Int32) (rs : List (Option γ)) (rd : Option γ) : Option γ := if x.toInt < 0 ∨ (rs.length : Int) ≤ x.toInt then rd else (rs[x.toInt.toNat]?).getD none
def sy_all (cv : α → Option Value) (κ : Kx) (pc : Nat) (lv : List (Option Value)) (st : List Value) (σ : St) : List Int → List (Option (α × St)) → Prop
  | o :: os, r :: rs => Ab cv κ ((pc : Int) + o).toNat lv st σ r ∧ sy_all cv κ pc lv st σ os rs
  | [], [] => True
  | _, _ => False
theorem sy_all_at : ∀ (os : List Int) (rs : List (Option (α × St))), sy_all cv κ pc lv st σ os rs → ∀ (i : Nat), i < rs.length → ∃ o r, os[i]? = some o ∧ rs[i]? = some r ∧ Ab cv κ ((pc : Int) + o).toNat lv st σ r
  | [], [], _, i, hi => by simp at hi
  | [], _ :: _, h, i, hi => by cases h
  | _ :: _, [], h, i, hi => by cases h
  | o :: os, r :: rs, h, 0, hi => ⟨o, r, rfl, rfl, h.1⟩
  | o :: os, r :: rs, h, i + 1, hi => by
    obtain ⟨o2, r2, a, b, c⟩ := sy_all_at os rs h.2 i (by simpa using hi)
    exact ⟨o2, r2, by simpa using a, by simpa using b, c⟩
theorem ab_tsw (hκ : Gd κ cc nL own ret d) {x : Int32} {dflt hi : Int} {offs : Array Int} {len : Nat} {rs : List (Option (α × St))} {rd : Option (α × St)} (hd : decode cc pc = .ok (.tableswitch dflt 0 hi offs, len)) (hhi : hi + 1 = (rs.length : Int)) (hneg : offs.toList.all (fun o => decide (0 ≤ (pc : Int) + o)) = true) (hneg2 : 0 ≤ (pc : Int) + dflt)
    (kd : Ab cv κ ((pc : Int) + dflt).toNat lv st σ rd) (ks : sy_all cv κ pc lv st σ offs.toList rs) : Ab cv κ pc lv (.int x :: st) σ (sy_sw x rs rd) := by
  obtain ⟨p, l, e, R, s, m, args, below, meth, c, cells, slots, Q, D, A, ad, cI, cR⟩ := κ
  obtain ⟨hx, hb, hml, hown, hts, hK, hinj, hA, hfr, hlo, hce, hsl, hrt, hn1, hn2⟩ := hκ
  intro r σ' hr hret H locs ls hP hS hL
  unfold sy_sw at hr
  by_cases h0 : x.toInt < 0 ∨ (rs.length : Int) ≤ x.toInt
  · rw [if_pos h0] at hr
    exact lv_tableOut hx hb hd (by omega) (by omega) (kd r σ' hr hret H locs ls hP hS hL)
  · rw [if_neg h0] at hr
    have g1 : 0 ≤ x.toInt := by omega
    have g2 : x.toInt.toNat < rs.length := by omega
    obtain ⟨o, r2, a, b, k⟩ := sy_all_at _ _ ks _ g2
    rw [b] at hr
    have ho : 0 ≤ (pc : Int) + o := of_decide_eq_true (List.all_eq_true.mp hneg o (List.mem_of_getElem? a))
    exact lv_tableIn hx hb hd (by omega) (by omega) (off := o) (by rw [Int.sub_zero, ← Array.getElem?_toList]; exact a) (by omega) (k r σ' hr hret H locs ls hP hS hL)
theorem ab_lsw (hκ : Gd κ cc nL own ret d) {x : Int32} {dflt off : Int} {ps : Array (Int × Int)} {len tgt : Nat} {res : Option (α × St)} (hd : decode cc pc = .ok (.lookupswitch dflt ps, len)) (hp : (ps.toList.zip (ps.toList.drop 1)).all (fun (a, next) => a.1 < next.1) = true) (ho : Op.lookupswitch.offset ps.toList dflt x.toInt = off) (ht : (pc : Int) + off = (tgt : Int))
    (k : Ab cv κ tgt lv st σ res) : Ab cv κ pc lv (.int x :: st) σ res := by
  obtain ⟨p, l, e, R, s, m, args, below, meth, c, cells, slots, Q, D, A, ad, cI, cR⟩ := κ
  obtain ⟨hx, hb, hml, hown, hts, hK, hinj, hA, hfr, hlo, hce, hsl, hrt, hn1, hn2⟩ := hκ
  intro r σ' hr hret H locs ls hP hS hL
  exact lv_lookup hx hb hd hp ho ht (k r σ' hr hret H locs ls hP hS hL)
end Sw
