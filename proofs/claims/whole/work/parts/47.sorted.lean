/-! sorted lists; what is sworn, laid in order -/
theorem srt_lt : ∀ {S : List Nat}, S.Pairwise (fun a b => a ≤ b) → ∀ {k y : Nat}, S[k]? = some y → ∀ v, (y < v ↔ k < S.countP (fun a => decide (a < v)))
  | [], _, k, y, h, v => by simp at h
  | a :: t, hp, k, y, h, v => by
    rw [List.pairwise_cons] at hp
    have h0 : ¬ a < v → t.countP (fun a => decide (a < v)) = 0 := fun hn => List.countP_eq_zero.mpr (fun b hb => by
      have := hp.1 b hb
      simp only [decide_eq_true_eq]; omega)
    rw [List.countP_cons]
    cases k with
    | zero =>
      simp only [List.getElem?_cons_zero, Option.some.injEq] at h
      subst h
      by_cases e : a < v
      · simp [e]
      · simp [e, h0 e]
    | succ k =>
      rw [List.getElem?_cons_succ] at h
      have ih := srt_lt hp.2 h v
      by_cases e : a < v
      · simp only [e, decide_true, if_true]; omega
      · have := hp.1 y (List.mem_of_getElem? h)
        simp only [e, decide_false, h0 e]
        simp; omega
theorem srt_ins {S : List Nat} {j x : Nat} (h : S.Pairwise (fun a b => a ≤ b)) (h1 : ∀ a ∈ S.take j, a ≤ x) (h2 : ∀ a ∈ S.drop j, x ≤ a) : (S.take j ++ x :: S.drop j).Pairwise (fun a b => a ≤ b) := by
  rw [← List.take_append_drop j S, List.pairwise_append] at h
  rw [List.pairwise_append, List.pairwise_cons]
  refine ⟨h.1, ⟨h2, h.2.1⟩, fun a ha b hb => ?_⟩
  rcases List.mem_cons.mp hb with rfl | hb
  · exact h1 a ha
  · exact h.2.2 a ha b hb
theorem srt_perm {S : List Nat} {j x : Nat} {L : List Nat} (h : S.Perm L) : (S.take j ++ x :: S.drop j).Perm (L ++ [x]) := by
  refine List.perm_middle.trans ?_
  rw [List.take_append_drop]
  exact (List.Perm.cons x h).trans (List.perm_append_singleton x L).symm
theorem ins_get {S : List Nat} {j x : Nat} (hj : j ≤ S.length) (i : Nat) : (S.take j ++ x :: S.drop j)[i]? = if i < j then S[i]? else if i = j then some x else S[i - 1]? := by
  by_cases h : i < j
  · rw [if_pos h, List.getElem?_append_left (by rw [List.length_take]; omega), List.getElem?_take, if_pos h]
  · rw [if_neg h, List.getElem?_append_right (by rw [List.length_take]; omega), List.length_take, Nat.min_eq_left hj]
    by_cases e : i = j
    · subst e; simp
    · rw [if_neg e, show i - j = (i - j - 1) + 1 by omega, List.getElem?_cons_succ, List.getElem?_drop]
      congr 1; omega
def SD (σ : zSo) (S : List Nat) : Prop := ∀ i y, S[i]? = some y → σ 79 i = nI y
def fL (p : paT) (s msk k : Nat) : List Nat := (vK p s k).map (fun q => if msk.testBit q.1 then 99 else q.2)
/-! the inner loop: x goes to its place -/
set_option maxHeartbeats 4000000 in
set_option maxRecDepth 100000 in
theorem mo_lay_in {d s msk x w n : Nat} {σ : zSo} {Q : Option Value → zSo → Prop} {S : List Nat} (hn : S.length = n) (h6 : n < 6) (hx : x ≤ 99) (h99 : ∀ a ∈ S, a ≤ 99) (hS : S.Pairwise (fun a b => a ≤ b))
    (hQ : ∀ σ' : zSo, ∀ j, j ≤ n → zFr [79] σ σ' → SD σ' (S.take j ++ x :: S.drop j) → (S.take j ++ x :: S.drop j).Pairwise (fun a b => a ≤ b) → zA d 155 5 [(0, .ref 70), (1, .int (nI s)), (2, .int (nI msk)), (3, .int (nI (n + 1))), (4, .int (nI (w + 1)))] [] σ' Q) :
    ∀ j, j ≤ n → (∀ a ∈ S.drop j, x ≤ a) → ∀ σ1 : zSo, zFr [79] σ σ1 → (∀ i y, i < j → S[i]? = some y → σ1 79 i = nI y) → (∀ i y, j ≤ i → S[i]? = some y → σ1 79 (i + 1) = nI y) → ∀ i : Int32, i = nI j → zA d 155 56 [(0, .ref 70), (1, .int (nI s)), (2, .int (nI msk)), (3, .int (nI n)), (4, .int (nI w)), (5, .int (nI x)), (6, .int i)] [] σ1 Q := by
  have put : ∀ j, j ≤ n → (∀ a ∈ S.take j, a ≤ x) → (∀ a ∈ S.drop j, x ≤ a) → ∀ σ1 : zSo, zFr [79] σ σ1 → (∀ i y, i < j → S[i]? = some y → σ1 79 i = nI y) → (∀ i y, j ≤ i → S[i]? = some y → σ1 79 (i + 1) = nI y) → zA d 155 97 [(0, .ref 70), (1, .int (nI s)), (2, .int (nI msk)), (3, .int (nI n)), (4, .int (nI w)), (5, .int (nI x)), (6, .int (nI j))] [] σ1 Q := by
    intro j hj ht hd σ1 hF h1 h2
    repeat refine zA_step rfl rfl ?_
    refine zA_sto (j := j) rfl rfl (by omega) (by decide) ?_
    repeat refine zA_step rfl rfl ?_
    rw [← nI_1 n, ← nI_1 w] at hQ
    refine zA_dr rfl rfl rfl ?_
    refine hQ _ j hj (hF.up (by simp)) (fun i y hi => ?_) (srt_ins hS ht hd)
    rw [ins_get (by omega)] at hi
    rw [zup_k]
    simp only [upd]
    by_cases e : i < j
    · rw [if_pos e] at hi
      rw [if_neg (by omega)]
      exact h1 i y e hi
    · rw [if_neg e] at hi
      by_cases e2 : i = j
      · rw [if_pos e2] at hi
        rw [if_pos e2]
        cases hi; rfl
      · rw [if_neg e2] at hi
        rw [if_neg e2]
        have := h2 (i - 1) y (by omega) hi
        rw [show i - 1 + 1 = i by omega] at this
        exact this
  intro j
  induction j with
  | zero =>
    intro hj hd σ1 hF h1 h2 i ei
    subst ei
    refine zA_s0 rfl ?_
    refine zA_s0 rfl ?_
    refine zA_t (by decide) ?_
    exact put 0 (by omega) (by simp) hd σ1 hF h1 h2
  | succ j ih =>
    intro hj hd σ1 hF h1 h2 i ei
    subst ei
    obtain ⟨y, hy⟩ := tk_get (show j < S.length by omega)
    have hy9 := h99 y (List.mem_of_getElem? hy)
    have e1 : nI (j + 1) - 1 = nI j := (by rw [nu_eq]; simp (disch := omega) only [Int32.toInt_add, Int32.toInt_sub, Int32.toInt_mul, nu_I, Nat.reducePow, nu_bm, Int32.reduceToInt, Int64.reduceToInt]; omega)
    refine zA_s0 rfl ?_
    repeat refine zA_step rfl rfl ?_
    refine zA_f (by simp (disch := omega) only [nu_lt, nu_le, nu_eq, nu_cmp_lt, nu_cmp_gt, nu_cmp_ge, nu_cmp_le, nu_wide, Int32.toInt_add, Int32.toInt_sub, Int32.toInt_mul, nu_I, Nat.reducePow, nu_bm, Int32.reduceToInt, Int64.reduceToInt]; omega) ?_
    repeat refine zA_step rfl rfl ?_
    refine zA_ld (j := j) rfl e1 (by omega) (by decide) (h1 j y (by omega) hy) ?_
    repeat refine zA_step rfl rfl ?_
    by_cases h : y ≤ x
    · refine zA_t (by simp (disch := omega) only [nu_lt, nu_le, nu_eq, nu_cmp_lt, nu_cmp_gt, nu_cmp_ge, nu_cmp_le, nu_wide, Int32.toInt_add, Int32.toInt_sub, Int32.toInt_mul, nu_I, Nat.reducePow, nu_bm, Int32.reduceToInt, Int64.reduceToInt]; omega) ?_
      refine put (j + 1) (by omega) (fun a ha => ?_) hd σ1 hF h1 h2
      obtain ⟨i, hi⟩ := List.getElem?_of_mem ha
      rw [List.getElem?_take] at hi
      split at hi
      · rename_i hi'
        have m1 := (srt_lt hS hy (y + 1)).mp (by omega)
        have m2 := (srt_lt hS hi (y + 1)).mpr (by omega)
        omega
      · cases hi
    · refine zA_f (by simp (disch := omega) only [nu_lt, nu_le, nu_eq, nu_cmp_lt, nu_cmp_gt, nu_cmp_ge, nu_cmp_le, nu_wide, Int32.toInt_add, Int32.toInt_sub, Int32.toInt_mul, nu_I, Nat.reducePow, nu_bm, Int32.reduceToInt, Int64.reduceToInt]; omega) ?_
      repeat refine zA_step rfl rfl ?_
      refine zA_ld (j := j) rfl e1 (by omega) (by decide) (h1 j y (by omega) hy) ?_
      repeat refine zA_step rfl rfl ?_
      refine zA_sto (j := j + 1) rfl rfl (by omega) (by decide) ?_
      repeat refine zA_step rfl rfl ?_
      refine ih (by omega) (fun a ha => ?_) _ (hF.up (by simp)) (fun i z hi hz => ?_) (fun i z hi hz => ?_) _ ?_
      · obtain ⟨i, hi⟩ := List.getElem?_of_mem ha
        rw [List.getElem?_drop] at hi
        have m1 := srt_lt hS hy (a + 1)
        have m2 := srt_lt hS hi (a + 1)
        omega
      · rw [zup_k]
        simp only [upd]
        rw [if_neg (by omega)]
        exact h1 i z (by omega) hz
      · rw [zup_k]
        simp only [upd]
        by_cases e : i = j
        · subst e
          rw [if_pos rfl]
          rw [hy] at hz
          cases hz; rfl
        · rw [if_neg (by omega)]
          exact h2 i z (by omega) hz
      · exact (by rw [nu_eq]; simp (disch := omega) only [Int32.toInt_add, Int32.toInt_sub, Int32.toInt_mul, nu_I, Nat.reducePow, nu_bm, Int32.reduceToInt, Int64.reduceToInt]; omega)
