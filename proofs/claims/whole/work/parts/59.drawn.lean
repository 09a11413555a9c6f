/-! drawn -/
def sm (f : Nat → Nat) : Nat → Nat
  | 0 => 0
  | n + 1 => sm f n + f n
theorem sm_le {f : Nat → Nat} {B : Nat} : ∀ {n : Nat}, (∀ k, k < n → f k ≤ B) → sm f n ≤ n * B
  | 0, _ => by simp [sm]
  | n + 1, h => by
    have ih := sm_le (f := f) (n := n) (fun k hk => h k (by omega))
    have := h n (by omega)
    rw [sm, Nat.succ_mul]
    omega
theorem sm_add (f g : Nat → Nat) : ∀ n, sm (fun k => f k + g k) n = sm f n + sm g n
  | 0 => rfl
  | n + 1 => by rw [sm, sm, sm, sm_add f g n]; omega
theorem sm_zero : ∀ n, sm (fun _ => 0) n = 0
  | 0 => rfl
  | n + 1 => by rw [sm, sm_zero n]
theorem sm_swap (f : Nat → Nat → Nat) (S : Nat) : ∀ W, sm (fun w => sm (f w) S) W = sm (fun s => sm (fun w => f w s) W) S
  | 0 => (sm_zero S).symm
  | W + 1 => by
    rw [sm, sm_swap f S W, ← sm_add]
    rfl
def vO (p : paT) (w s : Nat) : Nat := match sayO p w s with
  | none => 0
  | some y => y
theorem vO_le {p : paT} {Y w s : Nat} (hW : paW p Y) (hw : w < pw p) (hs : s < ps p) : vO p w s ≤ 99 := by
  unfold vO
  cases h : sayO p w s with
  | none => exact Nat.zero_le _
  | some y => exact sayO_le hW hw hs h
/-- which stones someone below k swears to -/
def anb (p : paT) (k : Nat) : Nat → Bool := fun s => (List.range k).any (fun w => (sayO p w s).isSome)
theorem anb_s (p : paT) (k s : Nat) : anb p (k + 1) s = (anb p k s || (sayO p k s).isSome) := by
  unfold anb
  rw [List.range_succ, List.any_append]
  simp
theorem or_bn (f g : Nat → Bool) (n : Nat) : bn f n ||| bn g n = bn (fun s => f s || g s) n := by
  apply Nat.eq_of_testBit_eq
  intro j
  rw [Nat.testBit_or, bn_tb, bn_tb, bn_tb]
  cases decide (j < n) <;> simp
set_option maxHeartbeats 4000000 in
set_option maxRecDepth 100000 in
theorem cl_stonesSworn {d P Y : Nat} {σ : zSo} {Q : Option Value → zSo → Prop} {p : paT} (hP4 : P = 29) (hC : PC σ P p) (hW : paW p Y) (hY : Y ≤ 2000) (hQ : Q (some (.int (nI (bn (anb p (pw p)) (ps p))))) σ) : zC (d + 5) 39 [.ref P] σ Q := by
  subst hP4
  have w6 := hW.2.2.2.2.1
  have lp : ∀ n k, k + n = pw p → ∀ i : Int32, i = nI k → zA (d + 5) 39 4 [(0, .ref 29), (1, .int (nI (bn (anb p k) (ps p)))), (2, .int i)] [] σ Q := by
    intro n
    induction n with
    | zero =>
      intro k hk i ei
      subst ei
      have : k = pw p := by omega
      subst this
      refine zA_s0 rfl ?_
      repeat refine zA_step rfl rfl ?_
      rw [hC.2.2.1]
      refine zA_t (Int32.le_refl _) ?_
      repeat refine zA_step rfl rfl ?_
      exact zA_ret rfl hQ
    | succ n ih =>
      intro k hk i ei
      subst ei
      refine zA_s0 rfl ?_
      repeat refine zA_step rfl rfl ?_
      rw [hC.2.2.1]
      refine zA_f (by simp (disch := omega) only [nu_lt, nu_le, nu_eq, nu_cmp_lt, nu_cmp_gt, nu_cmp_ge, nu_cmp_le, nu_wide, Int32.toInt_add, Int32.toInt_sub, Int32.toInt_mul, nu_I, Nat.reducePow, nu_bm, Int32.reduceToInt, Int64.reduceToInt]; omega) ?_
      repeat refine zA_step rfl rfl ?_
      refine zA_call rfl rfl (cl_stonesSwornBy (Or.inr (Or.inl rfl)) hC hW hY (by omega) ?_)
      repeat refine zA_step rfl rfl ?_
      rw [nu_or, or_bn, show (fun s => anb p k s || stb p k s) = anb p (k + 1) from funext fun s => (anb_s p k s).symm]
      exact ih (k + 1) (by omega) _ (nI_1 k)
  show zA (d + 5) _ 0 [(0, .ref 29)] [] σ Q
  repeat refine zA_step rfl rfl ?_
  have e0 : bn (anb p 0) (ps p) = 0 := by
    apply Nat.eq_of_testBit_eq
    intro j
    rw [bn_tb]
    simp [anb]
  have := lp (pw p) 0 (by omega) 0 rfl
  rw [e0] at this
  exact this
def sw2 (p : paT) (w : Nat) : Nat := sm (vO p w) (ps p)
set_option maxHeartbeats 4000000 in
set_option maxRecDepth 100000 in
theorem cl_yardsSworn {d P Y : Nat} {σ : zSo} {Q : Option Value → zSo → Prop} {p : paT} (hP4 : P = 29) (hC : PC σ P p) (hW : paW p Y) (hY : Y ≤ 2000) (hQ : Q (some (.int (nI (sm (sw2 p) (pw p))))) σ) : zC (d + 5) 40 [.ref P] σ Q := by
  subst hP4
  have w6 := hW.2.2.2.2.1
  have ws6 := hW.2.2.2.1
  have lin : ∀ w, w < pw p → ∀ a, a ≤ 10000 → (zA (d + 5) 40 4 [(0, .ref 29), (1, .int (nI (a + sw2 p w))), (2, .int (nI w + 1))] [] σ Q) → ∀ n k, k + n = ps p → ∀ c : Nat, c = a + sm (vO p w) k → ∀ i : Int32, i = nI k → zA (d + 5) 40 14 [(0, .ref 29), (1, .int (nI c)), (2, .int (nI w)), (3, .int i)] [] σ Q := by
    intro w hw a ha K n
    induction n with
    | zero =>
      intro k hk c hc i ei
      subst ei hc
      have : k = ps p := by omega
      subst this
      refine zA_s0 rfl ?_
      repeat refine zA_step rfl rfl ?_
      rw [hC.2.1]
      refine zA_t (Int32.le_refl _) ?_
      repeat refine zA_step rfl rfl ?_
      refine zA_dr rfl rfl rfl ?_
      exact K
    | succ n ih =>
      intro k hk c hc i ei
      subst ei hc
      refine zA_s0 rfl ?_
      repeat refine zA_step rfl rfl ?_
      rw [hC.2.1]
      refine zA_f (by simp (disch := omega) only [nu_lt, nu_le, nu_eq, nu_cmp_lt, nu_cmp_gt, nu_cmp_ge, nu_cmp_le, nu_wide, Int32.toInt_add, Int32.toInt_sub, Int32.toInt_mul, nu_I, Nat.reducePow, nu_bm, Int32.reduceToInt, Int64.reduceToInt]; omega) ?_
      repeat refine zA_step rfl rfl ?_
      refine zA_call rfl rfl (cl_oath (Or.inr (Or.inl rfl)) hC hW hY hw (by omega) ?_)
      have e : sm (vO p w) (k + 1) = sm (vO p w) k + vO p w k := rfl
      cases h : sayO p w k with
      | none =>
        show zA _ _ _ _ (.int NO :: _) _ _
        have e2 : vO p w k = 0 := by unfold vO; rw [h]
        repeat refine zA_step rfl rfl ?_
        refine zA_dr rfl rfl rfl ?_
        rw [Int32.add_zero]
        exact ih (k + 1) (by omega) (a + sm (vO p w) k) (by rw [e, e2]; omega) _ (nI_1 k)
      | some y =>
        have hy := sayO_le hW hw (by omega) h
        have e2 : vO p w k = y := by unfold vO; rw [h]
        show zA _ _ _ _ (.int (nI y) :: _) _ _
        repeat refine zA_step rfl rfl ?_
        refine zA_f (nu_nI_NO (by omega)) ?_
        repeat refine zA_step rfl rfl ?_
        refine zA_dr rfl rfl rfl ?_
        rw [nI_add]
        exact ih (k + 1) (by omega) (a + sm (vO p w) k + y) (by rw [e, e2]; omega) _ (nI_1 k)
  have hsw : ∀ w, w < pw p → sw2 p w ≤ 594 := fun w hw => by
    have : sw2 p w ≤ ps p * 99 := sm_le (fun k hk => vO_le hW hw hk)
    omega
  have lp : ∀ n k, k + n = pw p → ∀ i : Int32, i = nI k → zA (d + 5) 40 4 [(0, .ref 29), (1, .int (nI (sm (sw2 p) k))), (2, .int i)] [] σ Q := by
    intro n
    induction n with
    | zero =>
      intro k hk i ei
      subst ei
      have : k = pw p := by omega
      subst this
      refine zA_s0 rfl ?_
      repeat refine zA_step rfl rfl ?_
      rw [hC.2.2.1]
      refine zA_t (Int32.le_refl _) ?_
      repeat refine zA_step rfl rfl ?_
      exact zA_ret rfl hQ
    | succ n ih =>
      intro k hk i ei
      subst ei
      have hle : sm (sw2 p) k ≤ k * 594 := sm_le (fun j hj => hsw j (by omega))
      refine zA_s0 rfl ?_
      repeat refine zA_step rfl rfl ?_
      rw [hC.2.2.1]
      refine zA_f (by simp (disch := omega) only [nu_lt, nu_le, nu_eq, nu_cmp_lt, nu_cmp_gt, nu_cmp_ge, nu_cmp_le, nu_wide, Int32.toInt_add, Int32.toInt_sub, Int32.toInt_mul, nu_I, Nat.reducePow, nu_bm, Int32.reduceToInt, Int64.reduceToInt]; omega) ?_
      repeat refine zA_step rfl rfl ?_
      exact lin k (by omega) (sm (sw2 p) k) (by omega) (ih (k + 1) (by omega) _ (nI_1 k)) (ps p) 0 (by omega) _ rfl 0 rfl
  show zA (d + 5) _ 0 [(0, .ref 29)] [] σ Q
  repeat refine zA_step rfl rfl ?_
  exact lp (pw p) 0 (by omega) 0 rfl
