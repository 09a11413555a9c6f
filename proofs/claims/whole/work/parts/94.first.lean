/-! THE START: the numbers of new objects, and that they stand in the relation -/
def iPF : Nat → Int32 := fun j => if j = 1 then 1 else if j = 2 then 1 else 0
def iLF : Nat → Int32 := upd (upd (upd (upd (upd (upd (upd (upd (fun _ => 0) 0 (-1)) 1 (-1)) 2 (-1)) 3 (-1)) 4 (-1)) 5 (-1)) 6 (-1)) 7 (-1)
def iS (xs : Nat → Int32) (L : Nat) : zSo := fun k => if k = 20 then iPF else if k = 29 then iPF else if k = 39 then iPF else if k = 48 then iPF else if k = 71 then iLF else
  if k = 1000 then (fun j => tAB.getD j 0) else if k = 1001 then (fun j => tSB.getD j 0) else if k = 1002 then (fun j => tMB.getD j 0) else if k = 1100 then xs else if k = 1101 then (fun _ => nI L) else fun _ => 0
def iP0 : paT := ((1, 1, 0, 0, 0), (fun _ => 0), (fun _ => 1), (fun _ => 0), (fun _ => 0), (fun _ => 0), fun _ _ => none)
theorem R_init (xs : Nat → Int32) (L : Nat) : R (iS xs L) := by
  refine ⟨fun r hr => Or.inl ?_, ⟨0, by omega, rfl, rfl, fun j hj => by omega⟩, ⟨rfl, rfl, 0, by omega, rfl, rfl, fun j hj => by omega⟩, fun j hj => ⟨rfl, rfl, rfl⟩, ⟨iP0, ⟨?_, ?_, ?_, rfl, ?_⟩, [], ⟨by simp, rfl, ⟨0, by omega, rfl, trivial⟩, rfl, fun i q hq => by simp at hq⟩⟩, fun k hk => Or.inl ?_⟩
  · rcases (show r = 0 ∨ r = 1 ∨ r = 2 ∨ r = 3 ∨ r = 4 ∨ r = 5 ∨ r = 6 ∨ r = 7 by omega) with rfl | rfl | rfl | rfl | rfl | rfl | rfl | rfl <;> exact ⟨rfl, rfl⟩
  · exact ⟨⟨by decide, by decide⟩, ⟨by decide, by decide⟩, Nat.zero_le _, Nat.zero_le _, Nat.zero_le _, fun s hs => absurd hs (Nat.not_lt_zero s), fun w hw => absurd hw (Nat.not_lt_zero w), fun w s hw => absurd hw (Nat.not_lt_zero w)⟩
  · exact ⟨⟨rfl, rfl⟩, rfl, rfl, rfl, fun s hs => absurd hs (Nat.not_lt_zero s), fun w hw => absurd hw (Nat.not_lt_zero w), fun w s hw => absurd hw (Nat.not_lt_zero w)⟩
  · exact ⟨fun h => absurd h (Nat.not_lt_zero 0), rfl, rfl, rfl, fun s hs => absurd hs (Nat.not_lt_zero s), fun w hw => absurd hw (Nat.not_lt_zero w), fun w s hw => absurd hw (Nat.not_lt_zero w)⟩
  · exact ⟨fun h => absurd h (Nat.not_lt_zero 0), fun h => absurd h (Nat.not_lt_zero 0)⟩
  · rcases (show k = 0 ∨ k = 1 by omega) with rfl | rfl <;> exact ⟨rfl, rfl⟩
/-- where each cell lies -/
def iA (q0 q1 : Nat) (u0 u1 : Nat → Nat) (t0 t1 t2 b : Nat) : Nat → Nat := fun k => if k = 0 then q0 else if k < 70 then u0 k else if k = 70 then q1 else if k < 84 then u1 (k - 71) else if k = 1000 then t0 else if k = 1001 then t1 else if k = 1002 then t2 else b
theorem iF2 (q0 q1 : Nat) (u0 u1 : Nat → Nat) (t0 t1 t2 b : Nat) : (va_up (va_up (va_up (va_up (va_up (va_up (va_up (va_up (fun _ => none) 0 (some (u0 2))) 1 (some (u0 4))) 2 (some (u0 6))) 3 (some (u0 8))) 4 (some (u0 10))) 5 (some (u0 12))) 6 (some (u0 14))) 7 (some (u0 16))) = fun j => (([some 2, some 4, some 6, some 8, some 10, some 12, some 14, some 16] : List (Option Nat)).getD j none).map (iA q0 q1 u0 u1 t0 t1 t2 b) := by
  funext j
  rcases Nat.lt_or_ge j 8 with h | h
  · rcases (show j = 0 ∨ j = 1 ∨ j = 2 ∨ j = 3 ∨ j = 4 ∨ j = 5 ∨ j = 6 ∨ j = 7 by omega) with rfl | rfl | rfl | rfl | rfl | rfl | rfl | rfl <;> rfl
  · rw [List.getD_eq_getElem?_getD, List.getElem?_eq_none (by simpa using h)]
    simp only [va_up]
    rw [if_neg (by omega), if_neg (by omega), if_neg (by omega), if_neg (by omega), if_neg (by omega), if_neg (by omega), if_neg (by omega), if_neg (by omega)]
    rfl
theorem iF3 (q0 q1 : Nat) (u0 u1 : Nat → Nat) (t0 t1 t2 b : Nat) : (va_up (va_up (fun _ => none) 0 (some (u0 39))) 1 (some (u0 48))) = fun j => (([some 39, some 48] : List (Option Nat)).getD j none).map (iA q0 q1 u0 u1 t0 t1 t2 b) := by
  funext j
  rcases Nat.lt_or_ge j 2 with h | h
  · rcases (show j = 0 ∨ j = 1 by omega) with rfl | rfl <;> rfl
  · rw [List.getD_eq_getElem?_getD, List.getElem?_eq_none (by simpa using h)]
    simp only [va_up]
    rw [if_neg (by omega), if_neg (by omega)]
    rfl
set_option maxHeartbeats 4000000 in
set_option maxRecDepth 100000 in
theorem zW_ini (D : va_G) (cA : Nat → ClassId) (q0 q1 : Nat) (u0 u1 : Nat → Nat) (t0 t1 t2 b : Nat) (xs : Nat → Int32) (L : Nat) : zW (iA q0 q1 u0 u1 t0 t1 t2 b, D, cA) (iS xs L) = bX6 cA q0 u0 ++ bX7 cA q1 u1 := by
  unfold bX6
  rw [iF2 q0 q1 u0 u1 t0 t1 t2 b, iF3 q0 q1 u0 u1 t0 t1 t2 b]
  unfold zW zLAY bX6g bX7
  simp only [List.mapIdx_cons, List.mapIdx_nil, Nat.reduceAdd, zE, zf, List.cons_append, List.nil_append]
  repeat' (refine List.cons_eq_cons.mpr ⟨rfl, ?_⟩)
  rfl
