/-! ===== constructors: a walk over a world that grows ===== -/
abbrev Kw : Type := Program × Launch × Env × Room × State × MethodId × Array Value × List Frame × Method × Code × (State → Prop) × va_G × (Nat → Prop)
def kw_s (κ : Kw) : State := κ.2.2.2.2.1
def kw_n (κ : Kw) : Prop := κ.2.2.2.2.2.2.2.2.1.name = "<init>"
/-- what a walk stands on; its room -/
def Gc : Kw → ClassId → ClassId → ByteArray → Nat → String → Nat → Nat → Nat → Nat → Prop
  | (p, l, e, R, s, m, args, below, meth, c, Q, D, A), cI, cR, cc, nL, own, fr, lo, mc, ms =>
    p.tables.exec = Jvm.exec ∧ c.code = cc ∧ c.maxLocals = nL ∧ s.vm.findClass own = some m.cls ∧ (∀ w ∈ sy_T, w.before args s = true) ∧ va_K D vwCl (sy_ty cI cR) s ∧ (∀ q : Nat, s.heap.size ≤ q → A q) ∧ fr ≤ R.frames ∧ lo ≤ R.locals ∧ mc ≤ R.cells ∧ ms ≤ R.slots
def Cw : Kw → Nat → Nat → va_W → Nat → List (Nat × Value) → List Value → Prop
  | (p, l, e, R, s, m, args, below, meth, c, Q, D, A), cells, slots, ws, pc, lv, st =>
    ∀ (H : Heap) (locs : List Loc) (ls : Array Slot), va_P D vwCl ws H → va_D A ws → va_S A s.heap H locs → lv_has ls c.maxLocals lv → W p l e R s m args below meth c H locs cells slots Q (F0 m pc ls st)
/-- what holds of the tables besides: it stays as the machine goes on -/
def okN (N : State → Prop) : Prop := (∀ s U : State, s.WarmedH U.vm → N s → N U) ∧ ∀ (U : State) (g : JFrame) (mk : MethodId) (a : Array Value), N U → N (U.calling g mk a)
/-- a constructor's contract: out of a new object, its cells -/
def Cc (y : MethodName) (cc : ByteArray) (nL fr lo mc ms ci : Nat) (f0 as : List Value) (N : State → Prop) (RW : ClassId → ClassId → Nat → (Nat → Nat) → va_W) : Prop :=
  ∀ (l : Launch) (D : va_G) (cI cR : ClassId) (h0 sz : Nat), Met l y (Cond.code y cc nL none :: sy_T) { frames := fr, cells := mc, slots := ms, locals := lo } (va_Pc (.ref h0 :: as) (fun U => U.heap.size = sz ∧ va_P D vwCl [(h0, .inr (ci, f0))] U.heap ∧ va_K D vwCl (sy_ty cI cR) U ∧ N U ∧ va_D (fun _ => True) [(h0, .inr (ci, f0))])) (va_Qv (fun _ : Nat → Nat => True) (fun u t => va_P D vwCl (RW cI cR h0 u) t.heap ∧ va_D (va_A [(h0, .inr (ci, f0))] sz) (RW cI cR h0 u)) (va_A [(h0, .inr (ci, f0))] sz)) mc ms (va_A [(h0, .inr (ci, f0))] sz)
theorem cj_last {A0 : Nat → Prop} {D : va_G} {cl : List vw_C} {ws w1 : va_W} {x : Nat × va_E} {H H1 : Heap} (hP : va_P D cl (ws ++ [x]) H) (hD : va_D A0 (ws ++ [x])) (hk : ∀ q : Nat, q < H.size → ¬ va_A [x] H.size q → H1[q]? = H[q]?) (hF : ∀ q, va_A [x] H.size q → A0 q) (hP1 : va_P D cl w1 H1) (hD1 : va_D (va_A [x] H.size) w1) : va_P D cl (ws ++ w1) H1 ∧ va_D A0 (ws ++ w1) := by
  have hl : ∀ (i : Nat) (q : Nat × va_E), ws[i]? = some q → (ws ++ [x])[i]? = some q := fun i q h => by
    rw [List.getElem?_append_left (List.getElem?_eq_some_iff.mp h).1]; exact h
  have hx : (ws ++ [x])[ws.length]? = some x := by simp
  have apart : ∀ (i : Nat) (q : Nat × va_E), ws[i]? = some q → q.1 < H.size ∧ ¬ va_A [x] H.size q.1 := by
    intro i q hq
    have h1 := (hP i q (hl i q hq)).lt
    refine ⟨h1, fun h => ?_⟩
    rcases h with ⟨k, e, h⟩ | h
    · have hk0 : k < 1 := (List.getElem?_eq_some_iff.mp h).1
      rw [show k = 0 by omega] at h
      have hxe : x = (q.1, e) := by simpa using h
      have := hD.1 i ws.length q x (hl i q hq) hx (by rw [hxe])
      have := (List.getElem?_eq_some_iff.mp hq).1
      omega
    · omega
  refine ⟨va_P.app (fun k q hq => ?_) hP1, va_D.app ⟨fun i j p q h1 h2 h3 => hD.1 i j p q (hl i p h1) (hl j q h2) h3, fun k q h => hD.2 k q (hl k q h)⟩ (hD1.weaken (fun k q _ h => hF q.1 h)) (fun i j p q h1 h2 h3 => ?_)⟩
  · obtain ⟨g1, g2⟩ := apart k q hq
    exact (hP k q (hl k q hq)).kept (hk q.1 g1 g2)
  · exact (apart i p h1).2 (by rw [h3]; exact hD1.2 j q h2)
section CRows
variable {κ : Kw} {cI cR : ClassId} {cc : ByteArray} {nL fr lo mc ms cells slots pc : Nat} {own : String} {ws : va_W} {lv lv' : List (Nat × Value)} {st : List Value}
theorem cw_iconst (hκ : Gc κ cI cR cc nL own fr lo mc ms) {n : Int} {v : Int32} (hd : decode cc pc = .ok (.iconst n, 1)) (hv : Int32.ofInt n = v) (k : Cw κ cells slots ws (pc + 1) lv (.int v :: st)) : Cw κ cells slots ws pc lv st := by
  obtain ⟨p, l, e, R, s, m, args, below, meth, c, Q, D, A⟩ := κ
  obtain ⟨hx, hb, hml, hown, hts, hK, hA, hfr, hlo, hce, hsl⟩ := hκ
  intro H locs ls hP hD hS hL
  exact lv_iconst hx hb hd hv (k H locs ls hP hD hS hL)
theorem cw_bipush (hκ : Gc κ cI cR cc nL own fr lo mc ms) {n : Int} {v : Int32} (hd : decode cc pc = .ok (.bipush n, 2)) (hv : (Int8.ofInt n).toInt32 = v) (k : Cw κ cells slots ws (pc + 2) lv (.int v :: st)) : Cw κ cells slots ws pc lv st := by
  obtain ⟨p, l, e, R, s, m, args, below, meth, c, Q, D, A⟩ := κ
  obtain ⟨hx, hb, hml, hown, hts, hK, hA, hfr, hlo, hce, hsl⟩ := hκ
  intro H locs ls hP hD hS hL
  exact lv_bipush hx hb hd hv (k H locs ls hP hD hS hL)
theorem cw_sipush (hκ : Gc κ cI cR cc nL own fr lo mc ms) {n : Int} {v : Int32} (hd : decode cc pc = .ok (.sipush n, 3)) (hv : (Int16.ofInt n).toInt32 = v) (k : Cw κ cells slots ws (pc + 3) lv (.int v :: st)) : Cw κ cells slots ws pc lv st := by
  obtain ⟨p, l, e, R, s, m, args, below, meth, c, Q, D, A⟩ := κ
  obtain ⟨hx, hb, hml, hown, hts, hK, hA, hfr, hlo, hce, hsl⟩ := hκ
  intro H locs ls hP hD hS hL
  exact lv_sipush hx hb hd hv (k H locs ls hP hD hS hL)
theorem cw_aload_n (hκ : Gc κ cI cR cc nL own fr lo mc ms) {n : Fin 4} {i j x : Nat} (hd : decode cc pc = .ok (.aload_n n, 1)) (hi : (n : Nat) = i) (hl : lv[j]? = some (i, .ref x)) (k : Cw κ cells slots ws (pc + 1) lv (.ref x :: st)) : Cw κ cells slots ws pc lv st := by
  obtain ⟨p, l, e, R, s, m, args, below, meth, c, Q, D, A⟩ := κ
  obtain ⟨hx, hb, hml, hown, hts, hK, hA, hfr, hlo, hce, hsl⟩ := hκ
  intro H locs ls hP hD hS hL
  exact lv_aload_n hx hb hd hi (lv_at hL j hl) (k H locs ls hP hD hS hL)
theorem cw_iload_n (hκ : Gc κ cI cR cc nL own fr lo mc ms) {n : Fin 4} {i j : Nat} {x : Int32} (hd : decode cc pc = .ok (.iload_n n, 1)) (hi : (n : Nat) = i) (hl : lv[j]? = some (i, .int x)) (k : Cw κ cells slots ws (pc + 1) lv (.int x :: st)) : Cw κ cells slots ws pc lv st := by
  obtain ⟨p, l, e, R, s, m, args, below, meth, c, Q, D, A⟩ := κ
  obtain ⟨hx, hb, hml, hown, hts, hK, hA, hfr, hlo, hce, hsl⟩ := hκ
  intro H locs ls hP hD hS hL
  exact lv_iload_n hx hb hd hi (lv_at hL j hl) (k H locs ls hP hD hS hL)
theorem cw_istore_n (hκ : Gc κ cI cR cc nL own fr lo mc ms) {n : Fin 4} {i : Nat} {x : Int32} (hd : decode cc pc = .ok (.istore_n n, 1)) (hi : (n : Nat) = i) (hn : i < nL) (hl : (i, Value.int x) :: lv.filter (fun q => !(q.1 == i) && !(q.1 + 1 == i && q.2.category == 2)) = lv') (k : Cw κ cells slots ws (pc + 1) lv' st) : Cw κ cells slots ws pc lv (.int x :: st) := by
  obtain ⟨p, l, e, R, s, m, args, below, meth, c, Q, D, A⟩ := κ
  obtain ⟨hx, hb, hml, hown, hts, hK, hA, hfr, hlo, hce, hsl⟩ := hκ
  intro H locs ls hP hD hS hL
  exact lv_istore_n hx hb hd hi hL (by rw [hml]; exact hn) hl (fun ls hl => k H locs ls hP hD hS hl)
theorem cw_astore_n (hκ : Gc κ cI cR cc nL own fr lo mc ms) {n : Fin 4} {i x : Nat} (hd : decode cc pc = .ok (.astore_n n, 1)) (hi : (n : Nat) = i) (hn : i < nL) (hl : (i, Value.ref x) :: lv.filter (fun q => !(q.1 == i) && !(q.1 + 1 == i && q.2.category == 2)) = lv') (k : Cw κ cells slots ws (pc + 1) lv' st) : Cw κ cells slots ws pc lv (.ref x :: st) := by
  obtain ⟨p, l, e, R, s, m, args, below, meth, c, Q, D, A⟩ := κ
  obtain ⟨hx, hb, hml, hown, hts, hK, hA, hfr, hlo, hce, hsl⟩ := hκ
  intro H locs ls hP hD hS hL
  exact lv_astore_n hx hb hd hi hL (by rw [hml]; exact hn) hl (fun ls hl => k H locs ls hP hD hS hl)
theorem cw_iinc (hκ : Gc κ cI cR cc nL own fr lo mc ms) {i j : Nat} {n : Int} {x v : Int32} (hd : decode cc pc = .ok (.iinc i n, 3)) (hj : lv[j]? = some (i, .int x)) (hv : x + Int32.ofInt n = v) (hn : i < nL) (hl : (i, Value.int v) :: lv.filter (fun q => !(q.1 == i) && !(q.1 + 1 == i && q.2.category == 2)) = lv') (k : Cw κ cells slots ws (pc + 3) lv' st) : Cw κ cells slots ws pc lv st := by
  obtain ⟨p, l, e, R, s, m, args, below, meth, c, Q, D, A⟩ := κ
  obtain ⟨hx, hb, hml, hown, hts, hK, hA, hfr, hlo, hce, hsl⟩ := hκ
  intro H locs ls hP hD hS hL
  exact lv_iinc hx hb hd hL hj hv (by rw [hml]; exact hn) hl (fun ls hl => k H locs ls hP hD hS hl)
theorem cw_dup (hκ : Gc κ cI cR cc nL own fr lo mc ms) {x : Nat} (hd : decode cc pc = .ok (.dup, 1)) (k : Cw κ cells slots ws (pc + 1) lv (.ref x :: .ref x :: st)) : Cw κ cells slots ws pc lv (.ref x :: st) := by
  obtain ⟨p, l, e, R, s, m, args, below, meth, c, Q, D, A⟩ := κ
  obtain ⟨hx, hb, hml, hown, hts, hK, hA, hfr, hlo, hce, hsl⟩ := hκ
  intro H locs ls hP hD hS hL
  exact lv_dup hx hb hd rfl (k H locs ls hP hD hS hL)
theorem cw_goto (hκ : Gc κ cI cR cc nL own fr lo mc ms) {off : Int} {tgt : Nat} (hd : decode cc pc = .ok (.goto off, 3)) (ht : (pc : Int) + off = (tgt : Int)) (k : Cw κ cells slots ws tgt lv st) : Cw κ cells slots ws pc lv st := by
  obtain ⟨p, l, e, R, s, m, args, below, meth, c, Q, D, A⟩ := κ
  obtain ⟨hx, hb, hml, hown, hts, hK, hA, hfr, hlo, hce, hsl⟩ := hκ
  intro H locs ls hP hD hS hL
  exact lv_goto hx hb hd ht (k H locs ls hP hD hS hL)
theorem cw_ge_y (hκ : Gc κ cI cR cc nL own fr lo mc ms) {x y : Int32} {off : Int} {tgt : Nat} (hd : decode cc pc = .ok (.if_icmp .ge off, 3)) (ht : (pc : Int) + off = (tgt : Int)) (hc : y ≤ x) (k : Cw κ cells slots ws tgt lv st) : Cw κ cells slots ws pc lv (.int y :: .int x :: st) := by
  obtain ⟨p, l, e, R, s, m, args, below, meth, c, Q, D, A⟩ := κ
  obtain ⟨hx, hb, hml, hown, hts, hK, hA, hfr, hlo, hce, hsl⟩ := hκ
  intro H locs ls hP hD hS hL
  exact lv_icmp_ge hx hb hd ht (fun _ => k H locs ls hP hD hS hL) (fun h => absurd hc h)
theorem cw_ge_n (hκ : Gc κ cI cR cc nL own fr lo mc ms) {x y : Int32} {off : Int} {tgt : Nat} (hd : decode cc pc = .ok (.if_icmp .ge off, 3)) (ht : (pc : Int) + off = (tgt : Int)) (hc : ¬ y ≤ x) (k : Cw κ cells slots ws (pc + 3) lv st) : Cw κ cells slots ws pc lv (.int y :: .int x :: st) := by
  obtain ⟨p, l, e, R, s, m, args, below, meth, c, Q, D, A⟩ := κ
  obtain ⟨hx, hb, hml, hown, hts, hK, hA, hfr, hlo, hce, hsl⟩ := hκ
  intro H locs ls hP hD hS hL
  exact lv_icmp_ge hx hb hd ht (fun h => absurd h hc) (fun _ => k H locs ls hP hD hS hL)
theorem cw_eq_y (hκ : Gc κ cI cR cc nL own fr lo mc ms) {x : Int32} {off : Int} {tgt : Nat} (hd : decode cc pc = .ok (.ifCond .eq off, 3)) (ht : (pc : Int) + off = (tgt : Int)) (hc : x = 0) (k : Cw κ cells slots ws tgt lv st) : Cw κ cells slots ws pc lv (.int x :: st) := by
  obtain ⟨p, l, e, R, s, m, args, below, meth, c, Q, D, A⟩ := κ
  obtain ⟨hx, hb, hml, hown, hts, hK, hA, hfr, hlo, hce, hsl⟩ := hκ
  intro H locs ls hP hD hS hL
  exact lv_if_eq hx hb hd ht (fun _ => k H locs ls hP hD hS hL) (fun h => absurd hc h)
theorem cw_eq_n (hκ : Gc κ cI cR cc nL own fr lo mc ms) {x : Int32} {off : Int} {tgt : Nat} (hd : decode cc pc = .ok (.ifCond .eq off, 3)) (ht : (pc : Int) + off = (tgt : Int)) (hc : ¬ x = 0) (k : Cw κ cells slots ws (pc + 3) lv st) : Cw κ cells slots ws pc lv (.int x :: st) := by
  obtain ⟨p, l, e, R, s, m, args, below, meth, c, Q, D, A⟩ := κ
  obtain ⟨hx, hb, hml, hown, hts, hK, hA, hfr, hlo, hce, hsl⟩ := hκ
  intro H locs ls hP hD hS hL
  exact lv_if_eq hx hb hd ht (fun h => absurd h hc) (fun _ => k H locs ls hP hD hS hL)
theorem cw_obj (hκ : Gc κ cI cR cc nL own fr lo mc ms) {a idx : Nat} (hd : decode cc pc = .ok (.invokespecial idx, 3)) (hl : Cond.methodLink own idx objectInit ∈ sy_T) (hi : Cond.instanceMethod objectInit ∈ sy_T) (hc : Cond.code objectInit ⟨#[0xb1]⟩ 1 none ∈ sy_T) (hf : 1 ≤ fr) (hlo : 12 ≤ lo) (k : Cw κ cells slots ws (pc + 3) lv []) : Cw κ cells slots ws pc lv [.ref a] := by
  obtain ⟨p, l, e, R, s, m, args, below, meth, c, Q, D, A⟩ := κ
  obtain ⟨hx, hb, hml, hown, hts, hK, hA, hfr, hlo2, hce, hsl⟩ := hκ
  intro H locs ls hP hD hS hL
  exact W.objInit hx hb hown (hts _ hl) (hts _ hi) (hts _ hc) rfl hL.1 rfl hd (by omega) (by show 12 ≤ R.locals; omega) (k H locs ls hP hD hS hL)
theorem cw_newa (hκ : Gc κ cI cR cc nL own fr lo mc ms) {n : Int32} {N : Nat} (hd : decode cc pc = .ok (.newarray .int, 2)) (hn : ¬ n < 0) (hN : n.toNatClampNeg = N) (hby : N * 4 ≤ 536870912) (hc : cells + 1 ≤ mc) (hs : slots + N ≤ ms) (ha : Cond.arrayClass .int ∈ sy_T) (k : ∀ q : Nat, Cw κ (cells + 1) (slots + N) (ws ++ [(q, .inl (cI, N, .inl (fun _ => 0)))]) (pc + 2) lv (.ref q :: st)) : Cw κ cells slots ws pc lv (.int n :: st) := by
  obtain ⟨p, l, e, R, s, m, args, below, meth, c, Q, D, A⟩ := κ
  obtain ⟨hx, hb, hml, hown, hts, hK, hA, hfr, hlo2, hce, hsl⟩ := hκ
  intro H locs ls hP hD hS hL
  refine va_newa (atype := .int) (ty := .int) (a0 := (N, .inl (fun _ => 0))) hx hb (hts _ ha) rfl hK hP hD hS hA (fun cA => rfl) hn hN hby (by omega) (by omega) hd (fun q cA H1 hK1 hP1 hD1 hS1 => ?_)
  have e1 : s.vm.findClass ("[" ++ FieldType.int.toString) = some cA := (hK1.2 2 (cA, .int) rfl).2
  have e2 : s.vm.findClass ("[" ++ FieldType.int.toString) = some cI := (hK.2 0 (cI, .int) rfl).2
  have ec : cA = cI := Option.some.inj (e1.symm.trans e2)
  rw [ec] at hP1 hD1
  exact k q H1 locs ls hP1 hD1 hS1 hL
theorem cw_newq (hκ : Gc κ cI cR cc nL own fr lo mc ms) {n : Int32} {N idx : Nat} (hd : decode cc pc = .ok (.anewarray idx, 3)) (hcl : Cond.classLink own idx RX4 ∈ sy_T) (hov : va_AO RX4 (kw_s κ)) (hn : ¬ n < 0) (hN : n.toNatClampNeg = N) (hby : N * 4 ≤ 536870912) (hc : cells + 1 ≤ mc) (hs : slots + N ≤ ms) (k : ∀ q : Nat, Cw κ (cells + 1) (slots + N) (ws ++ [(q, .inl (cR, N, .inr (.inr (.inr (.inr (fun _ => none))))))]) (pc + 3) lv (.ref q :: st)) : Cw κ cells slots ws pc lv (.int n :: st) := by
  obtain ⟨p, l, e, R, s, m, args, below, meth, c, Q, D, A⟩ := κ
  obtain ⟨hx, hb, hml, hown, hts, hK, hA, hfr, hlo2, hce, hsl⟩ := hκ
  intro H locs ls hP hD hS hL
  refine va_newq hx hb hown (hts _ hcl) hov hK hP hD hS hA hn hN hby (by omega) (by omega) hd (fun q cA H1 hK1 hP1 hD1 hS1 => ?_)
  obtain ⟨k1, c1, -, -, -, e1⟩ := (hK1.2 2 (cA, .object RX4) rfl).2
  obtain ⟨k2, c2, -, -, -, e2⟩ := (hK.2 1 (cR, .object RX4) rfl).2
  have ec : cA = cR := Option.some.inj (e1.symm.trans e2)
  rw [ec] at hP1 hD1
  exact k q H1 locs ls hP1 hD1 hS1 hL
theorem cw_new (hκ : Gc κ cI cR cc nL own fr lo mc ms) {idx ci N : Nat} {C : String} {T : u_T} {ty : Nat → FieldType} {f0 : List Value} (hd : decode cc pc = .ok (.new idx, 3)) (hci : sy_CI ci C T N ty) (hcl : Cond.classLink own idx C ∈ sy_T) (hin : Cond.instantiable C N ∈ sy_T) (hini : Cond.initialized C ∈ sy_T) (hfs : ∀ j, j < N → defaultValue (ty j) = vp_V f0 j) (hc : cells + 1 ≤ mc) (hs : slots + N ≤ ms) (k : ∀ q : Nat, Cw κ (cells + 1) (slots + N) (ws ++ [(q, .inr (ci, f0))]) (pc + 3) lv (.ref q :: st)) : Cw κ cells slots ws pc lv st := by
  obtain ⟨p, l, e, R, s, m, args, below, meth, c, Q, D, A⟩ := κ
  obtain ⟨hx, hb, hml, hown, hts, hK, hA, hfr, hlo2, hce, hsl⟩ := hκ
  obtain ⟨c1, c2, c3, c4⟩ := hci
  intro H locs ls hP hD hS hL
  exact va_new hx hb hts c2 ty c3 hown (hts _ hcl) (hts _ hin) (hts _ hini) hK hP hD hS hA c1 hfs (by omega) (by omega) hd (fun q H1 hP1 hD1 hS1 => k q H1 locs ls hP1 hD1 hS1 hL)
theorem cw_put (hκ : Gc κ cI cR cc nL own fr lo mc ms) {a idx ci N j : Nat} {C : String} {T : u_T} {ty : Nat → FieldType} {fs fs' : List Value} {tl : va_W} {v : Value} (hd : decode cc pc = .ok (.putfield idx, 3)) (hci : sy_CI ci C T N ty) (hj : j < N) (hl : Cond.fieldLink own idx (T j).1 (T j).2.1 (T j).2.2.1 ∈ sy_T) (hfin : (T j).2.2.2 = false) (hn : narrow (ty j) v = v) (hft : fits (ty j) v = true) (hlen : j < fs.length) (hfs : fs.set j v = fs') (k : Cw κ cells slots ((a, .inr (ci, fs')) :: tl) (pc + 3) lv st) : Cw κ cells slots ((a, .inr (ci, fs)) :: tl) pc lv (v :: .ref a :: st) := by
  obtain ⟨p, l, e, R, s, m, args, below, meth, c, Q, D, A⟩ := κ
  obtain ⟨hx, hb, hml, hown, hts, hK, hA, hfr, hlo2, hce, hsl⟩ := hκ
  obtain ⟨c1, c2, c3, c4⟩ := hci
  intro H locs ls hP hD hS hL
  subst hfs
  exact va_put hx hb hts c2 ty c3 c4 hown hK hP hD hS 0 rfl c1 j hj (hts _ hl) (fun _ h9 => h9) hfin (c3 j hj) hn hft hlen hd (fun H1 locs1 hP1 hD1 hS1 => k H1 locs1 ls hP1 hD1 hS1 hL)
theorem cw_putF (hκ : Gc κ cI cR cc nL own fr lo mc ms) (hnm : kw_n κ) {a idx ci N j : Nat} {C : String} {T : u_T} {ty : Nat → FieldType} {fs fs' : List Value} {tl : va_W} {v : Value} (hd : decode cc pc = .ok (.putfield idx, 3)) (hci : sy_CI ci C T N ty) (hj : j < N) (hl : Cond.fieldLink own idx (T j).1 (T j).2.1 (T j).2.2.1 ∈ sy_T) (hfin : (T j).2.2.2 = true) (hdc : (T j).1 = own) (hn : narrow (ty j) v = v) (hft : fits (ty j) v = true) (hlen : j < fs.length) (hfs : fs.set j v = fs') (k : Cw κ cells slots ((a, .inr (ci, fs')) :: tl) (pc + 3) lv st) : Cw κ cells slots ((a, .inr (ci, fs)) :: tl) pc lv (v :: .ref a :: st) := by
  obtain ⟨p, l, e, R, s, m, args, below, meth, c, Q, D, A⟩ := κ
  obtain ⟨hx, hb, hml, hown, hts, hK, hA, hfr, hlo2, hce, hsl⟩ := hκ
  obtain ⟨c1, c2, c3, c4⟩ := hci
  intro H locs ls hP hD hS hL
  subst hfs
  exact va_putF hx hb hts c2 ty c3 c4 hown hK hP hD hS 0 rfl c1 j hj (hts _ hl) (fun _ h9 => h9) hfin hnm hdc (c3 j hj) hn hft hlen hd (fun H1 locs1 hP1 hD1 hS1 => k H1 locs1 ls hP1 hD1 hS1 hL)
theorem cw_get (hκ : Gc κ cI cR cc nL own fr lo mc ms) {a idx ci N j : Nat} {C : String} {T : u_T} {ty : Nat → FieldType} {fs : List Value} {tl : va_W} {v : Value} (hd : decode cc pc = .ok (.getfield idx, 3)) (hci : sy_CI ci C T N ty) (hj : j < N) (hl : Cond.fieldLink own idx (T j).1 (T j).2.1 (T j).2.2.1 ∈ sy_T) (hv : fs[j]? = some v) (k : Cw κ cells slots ((a, .inr (ci, fs)) :: tl) (pc + 3) lv (v :: st)) : Cw κ cells slots ((a, .inr (ci, fs)) :: tl) pc lv (.ref a :: st) := by
  obtain ⟨p, l, e, R, s, m, args, below, meth, c, Q, D, A⟩ := κ
  obtain ⟨hx, hb, hml, hown, hts, hK, hA, hfr, hlo2, hce, hsl⟩ := hκ
  obtain ⟨c1, c2, c3, c4⟩ := hci
  intro H locs ls hP hD hS hL
  exact va_get hx hb hts c2 hown hK hP 0 rfl c1 j hj (hts _ hl) (fun _ h9 => h9) hv hd (k H locs ls hP hD hS hL)
theorem cw_iast (hκ : Gc κ cI cR cc nL own fr lo mc ms) {a n q0 : Nat} {i x : Int32} {f : Nat → Int32} {ws' : va_W} (hd : decode cc pc = .ok (.iastore, 1)) (ha : ws[q0]? = some (a, .inl (cI, n, .inl f))) (hin : vp_in i n) (hws : ws.set q0 (a, .inl (cI, n, .inl (upd f i.toNatClampNeg x))) = ws') (k : Cw κ cells slots ws' (pc + 1) lv st) : Cw κ cells slots ws pc lv (.int x :: .int i :: .ref a :: st) := by
  obtain ⟨p, l, e, R, s, m, args, below, meth, c, Q, D, A⟩ := κ
  obtain ⟨hx, hb, hml, hown, hts, hK, hA, hfr, hlo2, hce, hsl⟩ := hκ
  intro H locs ls hP hD hS hL
  subst hws
  exact va_iast hx hb hK hP hD hS q0 0 ha rfl hin hd (fun H1 locs1 hP1 hD1 hS1 => k H1 locs1 ls hP1 hD1 hS1 hL)
theorem cw_aast (hκ : Gc κ cI cR cc nL own fr lo mc ms) {a n q0 qk v : Nat} {i : Int32} {f : Nat → Option Nat} {vs : List Value} {ws' : va_W} (hd : decode cc pc = .ok (.aastore, 1)) (ha : ws[q0]? = some (a, .inl (cR, n, .inr (.inr (.inr (.inr f)))))) (hv : ws[qk]? = some (v, .inr (4, vs))) (hin : vp_in i n) (hws : ws.set q0 (a, .inl (cR, n, .inr (.inr (.inr (.inr (va_up f i.toNatClampNeg (some v))))))) = ws') (k : Cw κ cells slots ws' (pc + 1) lv st) : Cw κ cells slots ws pc lv (.ref v :: .int i :: .ref a :: st) := by
  obtain ⟨p, l, e, R, s, m, args, below, meth, c, Q, D, A⟩ := κ
  obtain ⟨hx, hb, hml, hown, hts, hK, hA, hfr, hlo2, hce, hsl⟩ := hκ
  intro H locs ls hP hD hS hL
  subst hws
  exact va_astq (r := (RX4, TX4, 4)) hx hb hK hP hD hS q0 1 qk 4 ha rfl hv rfl hin hd (fun H1 locs1 hP1 hD1 hS1 => k H1 locs1 ls hP1 hD1 hS1 hL)
theorem cw_widen {c2 s2 : Nat} (h1 : cells ≤ c2) (h2 : slots ≤ s2) (k : Cw κ c2 s2 ws pc lv st) : Cw κ cells slots ws pc lv st := by
  obtain ⟨p, l, e, R, s, m, args, below, meth, c, Q, D, A⟩ := κ
  intro H locs ls hP hD hS hL
  exact W.widen h1 h2 (k H locs ls hP hD hS hL)
/-- the call of a constructor that may be linked -/
theorem cw_callI (hκ : Gc κ cI cR cc nL own fr lo mc ms) {idx n nL' fr' lo' mc' ms' ci q : Nat} {y : MethodName} {cc' : ByteArray} {f0 as stk : List Value} {N : State → Prop} {RW : ClassId → ClassId → Nat → (Nat → Nat) → va_W} (hd : decode cc pc = .ok (.invokespecial idx, 3)) (hM : Cc y cc' nL' fr' lo' mc' ms' ci f0 as N RW) (hoN : okN N) (hN : N (kw_s κ)) (hl : Cond.methodLink own idx y ∈ sy_T) (hI : sy_MI y cc' nL' none n) (hin : Cond.instanceMethod y ∈ sy_T) (hy : y.name = "<init>") (hn : as.length = n) (hf : fr' + 1 ≤ fr) (hlo : 8 + (nL' + 11) + lo' ≤ lo) (hc : cells + mc' ≤ mc) (hs : slots + ms' ≤ ms) (hst : (st.map fun v => v.category).sum ≤ 8) (hstk : stk = as.reverse ++ .ref q :: st) (k : ∀ u : Nat → Nat, Cw κ (cells + mc') (slots + ms') (ws ++ RW cI cR q u) (pc + 3) lv st) : Cw κ cells slots (ws ++ [(q, .inr (ci, f0))]) pc lv stk := by
  obtain ⟨p, l, e, R, s, m, args, below, meth, c, Q, D, A⟩ := κ
  obtain ⟨hx, hb, hml, hown, hts, hK, hA, hfr, hlo2, hce, hsl⟩ := hκ
  intro H locs ls hP hD hS hL
  subst hstk
  have hq : (ws ++ [(q, Sum.inr (ci, f0))])[ws.length]? = some (q, (.inr (ci, f0) : va_E)) := by simp
  have h1 : ∀ (j : Nat) (x : Nat × va_E), ([(q, .inr (ci, f0))] : va_W)[j]? = some x → j = 0 ∧ x = (q, .inr (ci, f0)) := by
    intro j x hx
    have hz : j < 1 := (List.getElem?_eq_some_iff.mp hx).1
    have hj : j = 0 := by omega
    subst hj
    exact ⟨rfl, by simpa using hx.symm⟩
  have hPx : va_P D vwCl [(q, .inr (ci, f0))] H := fun j x hx => by
    obtain ⟨-, rfl⟩ := h1 j x hx
    exact hP ws.length _ hq
  have hDx : va_D A [(q, .inr (ci, f0))] := ⟨fun i j x y hx hy _ => by rw [(h1 i x hx).1, (h1 j y hy).1], fun j x hx => by
    obtain ⟨-, rfl⟩ := h1 j x hx
    exact hD.2 ws.length _ hq⟩
  have hF : ∀ z, va_A [(q, .inr (ci, f0))] H.size z → A z := fun z h => by
    rcases h with ⟨j, e, h⟩ | h
    · exact hDx.2 j _ h
    · exact hA z (Nat.le_trans hS.1 h)
  obtain ⟨hcode, hini, hd3, hn25⟩ := hI
  refine va_callv (va_runI (As := as) (rest := st) ⟨hx, hb, hml, hown, hts⟩ (hM l D cI cR q H.size) ⟨callB_of n hts (sy_GI hcode) rfl rfl rfl (hts _ hini) (hts _ hl) hd3 ⟨by show fr' + 1 ≤ R.frames; omega, by show 8 + (nL' + 11) + lo' ≤ R.locals; omega⟩, hy, hts _ hin⟩ ⟨fun a U g mk z => by obtain ⟨z0, z1, zP, zK, zN, zD⟩ := z; exact ⟨z0, z1, zP, va_K.moved (u := U) (U := U.calling g mk a) (Vm.Alike.refl U.vm) zK, hoN.2 U g mk a zN, zD⟩, fun U hU hW => ⟨rfl, by rw [hU], by rw [hU]; exact hPx, va_K.moved hW.alike hK, hoN.1 s U hW hN, hDx.weaken (fun _ _ _ _ => trivial)⟩⟩ rfl hn (hL.1.trans hml) rfl (lv_room hst) hd ⟨by omega, by omega⟩) hS (fun z _ h => hF z h) hF (fun u t H1 locs1 ht hvm hw hB hz1 hk1 hS1 => ?_)
  obtain ⟨hP1, hD1⟩ := hB
  rw [ht] at hP1
  obtain ⟨hP2, hD2⟩ := cj_last hP hD hk1 hF hP1 hD1
  exact k u H1 locs1 ls hP2 hD2 hS1 hL
/-- the call of a nest mate's private constructor -/
theorem cw_callN (hκ : Gc κ cI cR cc nL own fr lo mc ms) {idx n nL' fr' lo' mc' ms' ci q : Nat} {y : MethodName} {host : String} {cc' : ByteArray} {f0 as stk : List Value} {N : State → Prop} {RW : ClassId → ClassId → Nat → (Nat → Nat) → va_W} (hd : decode cc pc = .ok (.invokespecial idx, 3)) (hM : Cc y cc' nL' fr' lo' mc' ms' ci f0 as N RW) (hoN : okN N) (hN : N (kw_s κ)) (hl : va_Nw (.methodLinkNest own idx y host) (kw_s κ)) (hI : sy_MI y cc' nL' none n) (hin : Cond.instanceMethod y ∈ sy_T) (hy : y.name = "<init>") (hn : as.length = n) (hf : fr' + 1 ≤ fr) (hlo : 8 + (nL' + 11) + lo' ≤ lo) (hc : cells + mc' ≤ mc) (hs : slots + ms' ≤ ms) (hst : (st.map fun v => v.category).sum ≤ 8) (hstk : stk = as.reverse ++ .ref q :: st) (k : ∀ u : Nat → Nat, Cw κ (cells + mc') (slots + ms') (ws ++ RW cI cR q u) (pc + 3) lv st) : Cw κ cells slots (ws ++ [(q, .inr (ci, f0))]) pc lv stk := by
  obtain ⟨p, l, e, R, s, m, args, below, meth, c, Q, D, A⟩ := κ
  obtain ⟨hx, hb, hml, hown, hts, hK, hA, hfr, hlo2, hce, hsl⟩ := hκ
  intro H locs ls hP hD hS hL
  subst hstk
  have hq : (ws ++ [(q, Sum.inr (ci, f0))])[ws.length]? = some (q, (.inr (ci, f0) : va_E)) := by simp
  have h1 : ∀ (j : Nat) (x : Nat × va_E), ([(q, .inr (ci, f0))] : va_W)[j]? = some x → j = 0 ∧ x = (q, .inr (ci, f0)) := by
    intro j x hx
    have hz : j < 1 := (List.getElem?_eq_some_iff.mp hx).1
    have hj : j = 0 := by omega
    subst hj
    exact ⟨rfl, by simpa using hx.symm⟩
  have hPx : va_P D vwCl [(q, .inr (ci, f0))] H := fun j x hx => by
    obtain ⟨-, rfl⟩ := h1 j x hx
    exact hP ws.length _ hq
  have hDx : va_D A [(q, .inr (ci, f0))] := ⟨fun i j x y hx hy _ => by rw [(h1 i x hx).1, (h1 j y hy).1], fun j x hx => by
    obtain ⟨-, rfl⟩ := h1 j x hx
    exact hD.2 ws.length _ hq⟩
  have hF : ∀ z, va_A [(q, .inr (ci, f0))] H.size z → A z := fun z h => by
    rcases h with ⟨j, e, h⟩ | h
    · exact hDx.2 j _ h
    · exact hA z (Nat.le_trans hS.1 h)
  obtain ⟨hcode, hini, hd3, hn25⟩ := hI
  refine va_callv (va_runIN (As := as) (rest := st) ⟨hx, hb, hml, hown, hts⟩ (hM l D cI cR q H.size) ⟨va_cnB n hts (sy_GI hcode) rfl rfl rfl hl (hts _ hini) hd3 ⟨by show fr' + 1 ≤ R.frames; omega, by show 8 + (nL' + 11) + lo' ≤ R.locals; omega⟩, hy, hts _ hin⟩ ⟨fun a U g mk z => by obtain ⟨z0, z1, zP, zK, zN, zD⟩ := z; exact ⟨z0, z1, zP, va_K.moved (u := U) (U := U.calling g mk a) (Vm.Alike.refl U.vm) zK, hoN.2 U g mk a zN, zD⟩, fun U hU hW => ⟨rfl, by rw [hU], by rw [hU]; exact hPx, va_K.moved hW.alike hK, hoN.1 s U hW hN, hDx.weaken (fun _ _ _ _ => trivial)⟩⟩ rfl hn (hL.1.trans hml) rfl (lv_room hst) hd ⟨by omega, by omega⟩) hS (fun z _ h => hF z h) hF (fun u t H1 locs1 ht hvm hw hB hz1 hk1 hS1 => ?_)
  obtain ⟨hP1, hD1⟩ := hB
  rw [ht] at hP1
  obtain ⟨hP2, hD2⟩ := cj_last hP hD hk1 hF hP1 hD1
  exact k u H1 locs1 ls hP2 hD2 hS1 hL
/-- the contract out of the walk -/
theorem cc_of {y : MethodName} {ci : Nat} {f0 as : List Value} {N : State → Prop} {RW : ClassId → ClassId → Nat → (Nat → Nat) → va_W} (hy : plainName y.cls = true) (hown : y.cls = own) (hnm : y.name = "<init>") (hlen : ∀ h0 : Nat, (lg_sl (.ref h0 :: as)).length ≤ nL)
    (hab : ∀ (κ : Kw) (cI cR : ClassId) (h0 : Nat), Gc κ cI cR cc nL own fr lo mc ms → kw_n κ → N (kw_s κ) → (∀ (u : Nat → Nat) (pc : Nat) (lv : List (Nat × Value)), decode cc pc = .ok (.return_, 1) → Cw κ mc ms (RW cI cR h0 u) pc lv []) → Cw κ 0 0 [(h0, .inr (ci, f0))] 0 (lv_args 0 (.ref h0 :: as)) []) : Cc y cc nL fr lo mc ms ci f0 as N RW := by
  intro l D cI cR h0 sz
  refine Met.ofW (cc := cc) (maxL := nL) (ret := none) hy rfl ?_
  intro p e s m args below meth c s₁ B hml hv
  obtain ⟨rfl, rfl, hP, hK, hN, hD0⟩ := hv
  have hx := B.exec
  have hb := B.bytes
  have hr := B.returns
  have hts0 := atoms_spec (ws := Cond.code y cc nL none :: sy_T) B.pre
  have hts : ∀ w ∈ sy_T, w.before (.ref h0 :: as).toArray s = true := fun w h => hts0 w (List.mem_cons_of_mem _ h)
  have hown2 : s.vm.findClass own = some m.cls := by rw [← hown]; exact findClass_of_methodNamed B.named
  have hlocks := B.notSynchronized
  have hin : meth.name = "<init>" := by rw [← hnm]; exact (name_of_methodNamed B.named B.method).1
  have hD := hD0.self (sz := s.heap.size)
  have hA : ∀ q : Nat, s.heap.size ≤ q → va_A [(h0, .inr (ci, f0))] s.heap.size q := fun q h => Or.inr h
  have hl := lv_entry (.ref h0 :: as) (n := nL) (hlen h0)
  rw [lg_entry_eq]
  generalize (lg_sl (.ref h0 :: as) ++ List.replicate (nL - (lg_sl (.ref h0 :: as)).length) Slot.unset).toArray = ls at hl ⊢
  refine hab (p, l, e, { frames := fr, cells := mc, slots := ms, locals := lo }, s, m, (.ref h0 :: as).toArray, below, meth, c, MQ below (va_Qv (fun _ : Nat → Nat => True) (fun u t => va_P D vwCl (RW cI cR h0 u) t.heap ∧ va_D (va_A [(h0, .inr (ci, f0))] s.heap.size) (RW cI cR h0 u)) (va_A [(h0, .inr (ci, f0))] s.heap.size)) (.ref h0 :: as).toArray s mc ms (va_A [(h0, .inr (ci, f0))] s.heap.size), D, va_A [(h0, .inr (ci, f0))] s.heap.size) cI cR h0 ⟨hx, hb, hml, hown2, hts, hK, hA, Nat.le_refl _, Nat.le_refl _, Nat.le_refl _, Nat.le_refl _⟩ hin hN ?_ s.heap [] ls hP hD va_S.rf (by rw [hml]; exact hl)
  intro u pc lv hd H locs ls hP1 hD1 hS1 hL1
  exact W.vret hx hb hr (fun t ht hW => ⟨⟨u, rfl, trivial, by rw [ht]; exact hP1, hD1⟩, hS1.F ht⟩) hS1.2.2 hd
end CRows
theorem okN_t : okN (fun _ => True) := ⟨fun _ _ _ _ => trivial, fun _ _ _ _ _ => trivial⟩
