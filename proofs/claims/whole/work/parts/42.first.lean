/-! ===== the start: what the two constructors leave ===== -/
/-- the store at first -/
def σi : St := fun k => if k = 1 then (fun j => if j = 1 then 32 else if j = 2 then 11 else 0) else if k = 3 then (fun j => if j = 0 then 1 else if j = 1 then 47 else if j = 2 then 16 else 0) else if k = 5 then (fun j => if j = 9 then 40 else if j = 14 then -1 else 0) else if k = 15 then (fun j => if j = 9 then 40 else if j = 14 then -1 else 0) else if k = 53 then (fun j => if j = 0 then 1 else 0) else if k = 55 then (fun j => if j = 0 then 1 else 0) else if k = 57 then (fun j => if j = 0 then 1 else 0) else if k = 59 then (fun j => if j = 0 then 1 else 0) else if k = 61 then (fun j => if j = 11 then 40 else if j = 15 then -1 else 0) else if k = 62 then upd (upd (upd (upd (fun _ => 0) 0 (-1)) 1 (-1)) 2 (-1)) 3 (-1) else fun _ => 0
/-- all that is told at first: nothing -/
def T0 : Td := ((0, fun _ => 0), (0, fun _ => 0), 40, (0, fun _ => 0, fun _ => 0), (0, fun _ => 0, fun _ => 0), (fun _ => -1), (fun _ => 0), (fun _ _ => 0), 0)
theorem okT_0 : okT T0 := by
  refine ⟨fun k hk => ?_, by decide, by decide, fun e he => absurd he (Nat.not_lt_zero e), by decide, fun e he => absurd he (Nat.not_lt_zero e), fun s hs => ⟨Nat.zero_le _, Or.inl rfl⟩⟩
  rcases (show k = 0 ∨ k = 1 by omega) with rfl | rfl
  · exact ⟨Nat.zero_le _, fun j hj => absurd hj (Nat.not_lt_zero j)⟩
  · exact ⟨Nat.zero_le _, fun j hj => absurd hj (Nat.not_lt_zero j)⟩
theorem th_0 (k : Nat) (b : Nat → Nat) : sp_th k 0 b = 0 := by
  unfold sp_th
  split <;> rfl
theorem isMT_0 : isMT σi T0 := by
  refine ⟨⟨rfl, fun j hj => absurd hj (Nat.not_lt_zero j), rfl, fun j hj => absurd hj (Nat.not_lt_zero j)⟩, ⟨rfl, rfl, fun e he => absurd he (Nat.not_lt_zero e), rfl, rfl⟩, ⟨rfl, fun e he => absurd he (Nat.not_lt_zero e)⟩, fun s hs => ⟨?_, ?_, fun i hi => absurd hi (Nat.not_lt_zero i)⟩, rfl⟩
  · rcases (show s = 0 ∨ s = 1 ∨ s = 2 ∨ s = 3 by omega) with rfl | rfl | rfl | rfl <;> rfl
  · rfl
theorem isCT_0 : isCT σi T0 := by
  have e0 : bP (sp_told T0) = 0 := th_0 0 (tB T0 0)
  have e1 : bN (sp_told T0) = 0 := th_0 1 (tB T0 1)
  refine ⟨⟨⟨rfl, rfl, rfl, rfl, Nat.zero_le _, fun j hj => absurd hj (Nat.not_lt_zero j)⟩, ⟨rfl, rfl, rfl, rfl, Nat.zero_le _, fun j hj => absurd hj (Nat.not_lt_zero j)⟩, ⟨?_, fun k hk => ?_, ?_, fun k hk => ?_, fun t ht => ⟨0, by decide, rfl, fun i => ?_⟩, rfl, rfl, fun e he => absurd he (Nat.not_lt_zero e), rfl, rfl⟩, ⟨rfl, fun j hj => absurd hj (Nat.not_lt_zero j)⟩, fun s hs => ⟨Or.inl ⟨rfl, ?_⟩, ?_, fun i hi => absurd hi (Nat.not_lt_zero i)⟩, rfl⟩, Or.inl rfl, Or.inl rfl, Or.inl rfl, Or.inl rfl, Or.inl rfl, Or.inl rfl⟩
  · rw [e0]; rfl
  · rw [e0] at hk; exact absurd hk (Nat.not_lt_zero k)
  · rw [e1]; rfl
  · rw [e1] at hk; exact absurd hk (Nat.not_lt_zero k)
  · rw [Nat.zero_testBit]
    exact (decide_eq_false (fun q => by have := q.1; omega)).symm
  · rcases (show s = 0 ∨ s = 1 ∨ s = 2 ∨ s = 3 by omega) with rfl | rfl | rfl | rfl <;> rfl
  · rcases (show s = 0 ∨ s = 1 ∨ s = 2 ∨ s = 3 by omega) with rfl | rfl | rfl | rfl <;> rfl
/-- where the cells are -/
def adL (q : Nat) (u : Nat → Nat) (q2 : Nat) (u2 : Nat → Nat) (b : Nat) : Nat → Nat := fun k => if k = 0 then q else if k < 61 then u (k - 1) else if k = 61 then q2 else if k < 81 then u2 (k - 62) else b
def sy_mi {α β : Type} (f : Nat → α → β) : Nat → List α → List β
  | _, [] => []
  | n, a :: l => f n a :: sy_mi f (n + 1) l
theorem sy_mi_at {α β : Type} (f : Nat → α → β) : ∀ (l : List α) (n i : Nat), (sy_mi f n l)[i]? = (l[i]?).map (f (n + i))
  | [], n, i => by simp [sy_mi]
  | a :: l, n, 0 => by simp [sy_mi]
  | a :: l, n, i + 1 => by
    show (sy_mi f (n + 1) l)[i]? = (l[i]?).map (f (n + (i + 1)))
    rw [sy_mi_at f l (n + 1) i, show n + 1 + i = n + (i + 1) by omega]
theorem sy_mi_eq {α β : Type} (f : Nat → α → β) (l : List α) : l.mapIdx f = sy_mi f 0 l := by
  apply List.ext_getElem?
  intro i
  rw [List.getElem?_mapIdx, sy_mi_at, Nat.zero_add]
def sy_c2 (ad : Nat → Nat) (cI cR : ClassId) (σ : St) (k : Nat) (sh : Sh) : va_E := match sh with
  | .inl n => .inl (cI, n, .inl (σ k))
  | .inr (.inl q) => .inl (cR, q.1, .inr (.inr (.inr (.inr (fun j => some (ad (q.2.1 + q.2.2 * j)))))))
  | .inr (.inr o) => .inr (o.1, sy_mi (sy_fv ad σ k) 0 o.2)
theorem sy_c2_eq (ad : Nat → Nat) (cI cR : ClassId) (σ : St) (k : Nat) (sh : Sh) : sy_ce ad cI cR σ k sh = sy_c2 ad cI cR σ k sh := by
  rcases sh with n | q | o
  · rfl
  · rfl
  · show (.inr (o.1, sy_fl ad σ k o.2) : va_E) = .inr (o.1, sy_mi (sy_fv ad σ k) 0 o.2)
    unfold sy_fl
    rw [sy_mi_eq]
theorem sy_w2_eq (ad : Nat → Nat) (cI cR : ClassId) (σ : St) : sy_w ad cI cR σ = sy_mi (fun k sh => (ad k, sy_c2 ad cI cR σ k sh)) 0 sy_shp := by
  unfold sy_w
  rw [sy_mi_eq]
  congr 1
  funext k sh
  rw [sy_c2_eq]
set_option maxRecDepth 100000 in
set_option maxHeartbeats 4000000 in
theorem w_eq (q : Nat) (u : Nat → Nat) (q2 : Nat) (u2 : Nat → Nat) (b : Nat) (cI cR : ClassId) : ((([] : va_W) ++ RW_X6 cI cR q u) ++ RW_X7 cI cR q2 u2).set 52 (u 51, .inl (cR, 4, .inr (.inr (.inr (.inr (fun j => some (adL q u q2 u2 b (53 + 2 * j)))))))) = sy_w (adL q u q2 u2 b) cI cR σi := by
  rw [sy_w2_eq]
  rfl
