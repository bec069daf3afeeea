/-! THE CLAIM OUT OF ONE WALK OF THE LAW'S BODY. Your part is whole_start (and what it stands on); all else here is the same for every law, but numbers. -/
def R_law : String := "BreathBandLaw"
def lw_P (b : Addr) (xs : List Int32) (args : Array Value) (s : State) : Prop := args = #[.ref b] ∧ s.IntsAt b xs ∧ xs.length ≤ 3072 ∧ (Jvm.Cond.and given_1 narrow_1).before args s = true
def lw_Q (_ : Array Value) (s : State) (o : Outcome) (t : State) : Prop := o = .returned (some (.int 1)) ∧ Framed s o t [] 600000 7302250
def lw_Z (below : List Frame) (a : Array Value) (s : State) : State → Prop := fun t => ∃ o, t.status = .running ∧ Ended t below o ∧ lw_Q a s o t
/-- the law's own end, with 1 on the stack, nothing written that was there before, its room as the claim has it -/
theorem lw_ret {p : Program} {l : Launch} {e : Env} {s : State} {m : MethodId} {below : List Frame} {meth : Method} {c : Code} {b : Nat} (hx : p.tables.exec = Jvm.exec) (hb : c.code = code) (hr : meth.sig.returnType = ret) (hlocks : meth.locks = false) {pc : Nat} {H : Heap} {ls : Array Slot} (hdg : decode code pc = .ok (.ireturn, 1)) : W p l e room_1 s m #[Value.ref b] below meth c H [] 600000 7302250 (lw_Z below #[Value.ref b] s) (F0 m pc ls [.int 1]) := by
  intro T hT X
  obtain ⟨fs, hret, hrun, hended, hW, hframe⟩ := X.leave (v := some (.int 1)) (hlocks := hlocks) (fun h => by rw [hr] at h; cases h)
  have hmeth' : T.vm.method? m = some meth := X.method'
  refine ⟨T.setFrames fs, ?_, .returned (some (.int 1)), hrun, hended, rfl, ⟨_, rfl⟩, hW, hframe⟩
  jvm_step X.here [X.here.top, hx, hb, hdg, hmeth', hr, ret, narrow_b1]
  (try refine ⟨rfl, ?_⟩); (try refine ⟨rfl, ?_⟩)
  first | (intro acts; rw [hret _ acts rfl rfl rfl]) | rw [hret _ _ rfl rfl rfl]
  exact Steps.refl _
/-- what holds at the law's entry: the machine, the code, the tables' words (any of lw_tbl by 'hts w (by decide +kernel)'), the script of L ints xs at the cell b, what the Statement gives of the start (any of its parts by flat_of_before) -/
def lw_At (p : Program) (s : State) (m : MethodId) (meth : Method) (c : Code) (b L : Nat) (xs : Nat → Int32) : Prop :=
  p.tables.exec = Jvm.exec ∧ c.code = code ∧ meth.sig.returnType = ret ∧ c.maxLocals = 4 ∧ s.vm.findClass R_law = some m.cls ∧ (∀ w ∈ lw_tbl, w.before #[Value.ref b] s = true) ∧ va_X b L xs s s.heap ∧ b < s.heap.size ∧ meth.locks = false ∧ (Jvm.Cond.and given_1 narrow_1).before #[Value.ref b] s = true
theorem va_P_refn {D : va_G} {cl : List vw_C} {ws : va_W} {H : Heap} {p a n : Nat} {cA : ClassId} {f g : Nat → Option Nat} (hP : va_P D cl ws H) (hp : ws[p]? = some (a, .inl (cA, n, .inr (.inr (.inr (.inr f)))))) (hfg : ∀ j, j < n → f j = g j) : va_P D cl (ws.set p (a, .inl (cA, n, .inr (.inr (.inr (.inr g)))))) H := by
  intro k q hq
  by_cases e : p = k
  · subst e
    rw [List.getElem?_set_self (List.getElem?_eq_some_iff.mp hp).1] at hq
    cases hq
    have h : H[a]? = some (vp_cell cA (n, .inr (.inr (.inr (.inr f))))) := hP p _ hp
    show H[a]? = some (vp_cell cA (n, .inr (.inr (.inr (.inr g)))))
    rw [h]
    have hfn : (fun j : Fin n => va_rf (f j.val)) = fun j : Fin n => va_rf (g j.val) := funext fun j => by rw [hfg j.val j.isLt]
    refine congrArg some ?_
    show ({ cls := cA, slots := Array.ofFn (n := n) fun j => va_rf (f j.val), vm := .none } : Cell) = { cls := cA, slots := Array.ofFn (n := n) fun j => va_rf (g j.val), vm := .none }
    rw [hfn]
  · rw [List.getElem?_set_ne e] at hq
    exact hP k q hq
set_option maxRecDepth 100000 in
set_option maxHeartbeats 4000000 in
theorem law_tail {p : Program} {l : Launch} {e : Env} {s : State} {m : MethodId} {below : List Frame} {meth : Method} {c : Code} {b L cells slots q q2 : Nat} {u u2 : Nat → Nat} {xs : Nat → Int32} {D : va_G} {cI cR : ClassId} (hL : L ≤ 3072) (C0 : lw_At p s m meth c b L xs) (hK : va_K D vwCl (sy_ty cI cR) s) (hts : ∀ w ∈ sy_T, w.before #[Value.ref b] s = true) (hn1 : va_Nw sy_n1 s) (hn2 : va_Nw sy_n2 s) (hc : cells ≤ 600000) (hs : slots ≤ 7302250) :
    Cw (p, l, e, room_1, s, m, #[Value.ref b], below, meth, c, lw_Z below #[Value.ref b] s, D, fun z : Nat => s.heap.size ≤ z) cells slots (([] ++ RW_X6 cI cR q u) ++ RW_X7 cI cR q2 u2) 18 [(3, .int 0), (2, .ref q2), (1, .ref q), (0, .ref b)] [] := by
  obtain ⟨hx, hb, hr, hml, hown, -, hX, hbl, hlocks, hgv⟩ := C0
  intro H locs ls hP hD hS hLs
  have hP1 : va_P D vwCl (sy_w (adL q u q2 u2 b) cI cR σi) H := by
    rw [← w_eq]
    refine va_P_refn hP rfl (fun j hj => ?_)
    rcases (show j = 0 ∨ j = 1 ∨ j = 2 ∨ j = 3 by omega) with rfl | rfl | rfl | rfl <;> rfl
  have hD1 : va_D (fun z : Nat => s.heap.size ≤ z) (sy_w (adL q u q2 u2 b) cI cR σi) := by
    rw [← w_eq]
    exact hD.set rfl
  have hsh : ∀ k, k < 81 → ∃ sh, sy_shp[k]? = some sh := fun k hk => ⟨sy_shp[k]'hk, List.getElem?_eq_getElem hk⟩
  have hinj : ∀ i j : Nat, i < 81 → j < 81 → adL q u q2 u2 b i = adL q u q2 u2 b j → i = j := by
    intro i j hi hj hij
    obtain ⟨s1, e1⟩ := hsh i hi
    obtain ⟨s2, e2⟩ := hsh j hj
    exact hD1.1 i j _ _ (sy_w_at e1) (sy_w_at e2) hij
  have hA : ∀ k : Nat, k < 81 → s.heap.size ≤ adL q u q2 u2 b k := by
    intro k hk
    obtain ⟨s1, e1⟩ := hsh k hk
    exact hD1.2 k _ (sy_w_at e1)
  obtain ⟨σ', hres⟩ := mL_law_one (xs := xs) hL okT_0 isCT_0 isMT_0
  have hκ : Gd (p, l, e, room_1, s, m, #[Value.ref b], below, meth, c, cells, slots, lw_Z below #[Value.ref b] s, D, fun z : Nat => s.heap.size ≤ z, adL q u q2 u2 b, cI, cR) cL_law 4 RL (some .boolean) 10 := ⟨hx, hb, hml, hown, hts, hK, hinj, hA, by decide, by decide, hc, hs, hr, hn1, hn2⟩
  have hX1 : sy_X (p, l, e, room_1, s, m, #[Value.ref b], below, meth, c, cells, slots, lw_Z below #[Value.ref b] s, D, fun z : Nat => s.heap.size ≤ z, adL q u q2 u2 b, cI, cR) L xs := ⟨hX, hbl, Nat.not_le.mpr hbl⟩
  refine mL_law_ok hκ L xs hX1 σi 1 σ' hres (fun H locs ls pc' hP hS hri => ?_) H locs ls hP1 hS ⟨hLs.1, hLs.2.1, fun i v hi => ?_⟩
  · obtain ⟨hdg, -⟩ := hri
    rw [hb] at hdg
    refine va_forget (fun z hz => hS.2.2 z hz) ?_
    refine W.widen hc hs ?_
    exact lw_ret hx hb hr hlocks hdg
  · match i, hi with
    | 0, hi => cases hi; exact lv_at hLs 3 rfl
    | 1, hi => cases hi; exact lv_at hLs 2 rfl
    | 2, hi => cases hi; exact lv_at hLs 1 rfl
    | 3, hi => cases hi; exact lv_at hLs 0 rfl
    | i + 4, hi => simp at hi
set_option maxRecDepth 100000 in
set_option maxHeartbeats 4000000 in
theorem whole_start {p : Program} {e : Env} {s : State} {m : MethodId} {below : List Frame} {meth : Method} {c : Code} (l : Launch) (hflags : l.flags = flags0) {b L : Nat} {xs : Nat → Int32} (hL : L ≤ 3072) (C0 : lw_At p s m meth c b L xs) : W p l e room_1 s m #[Value.ref b] below meth c s.heap [] 0 0 (lw_Z below #[Value.ref b] s) (entryFrame m ([Value.ref b] : List Value).toArray 4) := by
  obtain ⟨hx, hb, hr, hml, hown, htl, hX, hbl, hlocks, hgv⟩ := id C0
  have hts : ∀ w ∈ sy_T, w.before #[Value.ref b] s = true := fun w h => htl w (List.mem_filter.mp h).1
  have hA : ∀ z : Nat, s.heap.size ≤ z → (fun z : Nat => s.heap.size ≤ z) z := fun _ h => h
  obtain ⟨c0, i0, k0⟩ := u_known (C := RX0) (T := TX0) (N := 15) (n := 15) hts kc_0.2.1 (hts _ jn_0.1)
  obtain ⟨c1, i1, k1⟩ := u_known (C := RX1) (T := TX1) (N := 4) (n := 4) hts kc_1.2.1 (hts _ jn_1.1)
  obtain ⟨c2, i2, k2⟩ := u_known (C := RX2) (T := TX2) (N := 3) (n := 3) hts kc_2.2.1 (hts _ jn_2.1)
  obtain ⟨c3, i3, k3⟩ := u_known (C := RX3) (T := TX3) (N := 17) (n := 17) hts kc_3.2.1 (hts _ jn_3.1)
  obtain ⟨c4, i4, k4⟩ := u_known (C := RX4) (T := TX4) (N := 4) (n := 4) hts kc_4.2.1 (hts _ jn_4.1)
  obtain ⟨c5, i5, k5⟩ := u_known (C := RX5) (T := TX5) (N := 5) (n := 5) hts kc_5.2.1 (hts _ jn_5.1)
  obtain ⟨c6, i6, k6⟩ := u_known (C := RX6) (T := TX6) (N := 17) (n := 17) hts kc_6.2.1 (hts _ jn_6.1)
  obtain ⟨c7, i7, k7⟩ := u_known (C := RX7) (T := TX7) (N := 32) (n := 32) hts kc_7.2.1 (hts _ jn_7.1)
  obtain ⟨D, hKc⟩ : ∃ D : va_G, ∀ (k : Nat) (q : vw_C), vwCl[k]? = some q → u_Kn s q.1 q.2.1 q.2.2 (D.1 k) (D.2 k) := by
    refine ⟨(fun k => ([c0, c1, c2, c3, c4, c5, c6, c7] : List ClassId).getD k c0, fun k => ([i0, i1, i2, i3, i4, i5, i6, i7] : List (Nat → Nat)).getD k i0), ?_⟩
    intro k q hq
    match k, hq with
    | 0, hq => cases hq; exact k0
    | 1, hq => cases hq; exact k1
    | 2, hq => cases hq; exact k2
    | 3, hq => cases hq; exact k3
    | 4, hq => cases hq; exact k4
    | 5, hq => cases hq; exact k5
    | 6, hq => cases hq; exact k6
    | 7, hq => cases hq; exact k7
    | k + 8, hq => simp [vwCl] at hq
  obtain ⟨cI, kA, comp, f1, f2, f3⟩ := Cond.arrayClass_spec (hts _ jo_a)
  have hov : (Cond.arrayOver (.object RX4)).before #[Value.ref b] s = true := htl _ (List.mem_of_getElem? (i := 300) (by decide +kernel))
  obtain ⟨comp2, cR, kR, g1, g2, g3, g4, g5⟩ := Cond.arrayOver_spec hov
  have hK : va_K D vwCl (sy_ty cI cR) s := by
    refine ⟨hKc, fun k q hq => ?_⟩
    match k, hq with
    | 0, hq => cases hq; exact ⟨fun n z => ⟨fun k h => (by cases h), kA, f2, comp, f3⟩, f1⟩
    | 1, hq => cases hq; exact ⟨fun n z => ⟨fun k h => (by cases h), kR, g3, comp2, g4⟩, kR, comp2, g3, g4, g1, g5⟩
    | k + 2, hq => simp [sy_ty] at hq
  have hn1 : va_Nw sy_n1 s := va_Nw.of rfl (htl _ (List.mem_of_getElem? (i := 442) (by decide +kernel)))
  have hn2 : va_Nw sy_n2 s := va_Nw.of rfl (htl _ (List.mem_of_getElem? (i := 487) (by decide +kernel)))
  have hN6 : N6 s := ⟨va_Nw.of rfl (htl _ (List.mem_of_getElem? (i := 114) (by decide +kernel))), va_Nw.of rfl (htl _ (List.mem_of_getElem? (i := 190) (by decide +kernel))), va_Nw.of rfl (htl _ (List.mem_of_getElem? (i := 261) (by decide +kernel))), va_Nw.of rfl (htl _ (List.mem_of_getElem? (i := 278) (by decide +kernel))), va_Nw.of rfl (htl _ (List.mem_of_getElem? (i := 302) (by decide +kernel))), va_AO.of hov⟩
  have hl := lv_entry ([.ref b]) (n := 4) (Nat.le_of_ble_eq_true rfl)
  rw [lg_entry_eq]
  generalize (lg_sl ([.ref b]) ++ List.replicate (4 - (lg_sl ([.ref b])).length) Slot.unset).toArray = ls at hl ⊢
  have hκ : Gc (p, l, e, room_1, s, m, #[Value.ref b], below, meth, c, lw_Z below #[Value.ref b] s, D, fun z : Nat => s.heap.size ≤ z) cI cR cL_law 4 RL 12 480 600000 7302250 := ⟨hx, hb, hml, hown, hts, hK, hA, Nat.le_refl _, Nat.le_refl _, Nat.le_refl _, Nat.le_refl _⟩
  have K : Cw (p, l, e, room_1, s, m, #[Value.ref b], below, meth, c, lw_Z below #[Value.ref b] s, D, fun z : Nat => s.heap.size ≤ z) 0 0 [] 0 [(0, .ref b)] [] := by
    refine cw_new (f0 := [.null, .null, .null, .null, .null, .null, .null, .null, .null, .null, .null, .null, .null, .null, .int 0, .int 0, .int 0]) hκ dL_law_0 kc_6 (sy_mem 80 (by decide +kernel) rfl) jn_6.1 jn_6.2 jf_6 (Nat.le_of_ble_eq_true rfl) (Nat.le_of_ble_eq_true rfl) (fun q => ?_)
    refine cw_dup hκ dL_law_3 ?_
    refine cw_callI (ws := []) (n := 0) (q := q) (st := [.ref q]) hκ dL_law_4 c_X6 okN6 hN6 (sy_mem 82 (by decide +kernel) rfl) ji_6 jm_6 rfl rfl (by decide) (by decide) (Nat.le_of_ble_eq_true rfl) (Nat.le_of_ble_eq_true rfl) (Nat.le_of_ble_eq_true rfl) rfl (fun u => ?_)
    refine cw_astore_n (lv' := [(1, .ref q), (0, .ref b)]) hκ dL_law_7 rfl (by decide) rfl ?_
    refine cw_new (f0 := [.null, .null, .null, .null, .int 0, .null, .null, .int 0, .null, .int 0, .null, .int 0, .int 0, .null, .int 0, .int 0, .int 0, .int 0, .int 0, .int 0, .null, .null, .null, .null, .null, .null, .null, .null, .int 0, .null, .null, .int 0]) hκ dL_law_8 kc_7 (sy_mem 791 (by decide +kernel) rfl) jn_7.1 jn_7.2 jf_7 (Nat.le_of_ble_eq_true rfl) (Nat.le_of_ble_eq_true rfl) (fun q2 => ?_)
    refine cw_dup hκ dL_law_11 ?_
    refine cw_callI (ws := [] ++ RW_X6 cI cR q u) (n := 0) (q := q2) (st := [.ref q2]) hκ dL_law_12 c_X7 okN_t trivial (sy_mem 793 (by decide +kernel) rfl) ji_7 jm_7 rfl rfl (by decide) (by decide) (Nat.le_of_ble_eq_true rfl) (Nat.le_of_ble_eq_true rfl) (Nat.le_of_ble_eq_true rfl) rfl (fun u2 => ?_)
    refine cw_astore_n (lv' := [(2, .ref q2), (1, .ref q), (0, .ref b)]) hκ dL_law_15 rfl (by decide) rfl ?_
    refine cw_iconst (v := 0) hκ dL_law_16 rfl ?_
    refine cw_istore_n (lv' := [(3, .int 0), (2, .ref q2), (1, .ref q), (0, .ref b)]) hκ dL_law_17 rfl (by decide) rfl ?_
    exact law_tail hL C0 hK hts hn1 hn2 (Nat.le_of_ble_eq_true rfl) (Nat.le_of_ble_eq_true rfl)
  exact K s.heap [] ls (fun k q h => by simp at h) ⟨fun i j p q h => by simp at h, fun k q h => by simp at h⟩ va_S.rf (by rw [hml]; exact hl)
