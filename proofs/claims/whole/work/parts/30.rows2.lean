/-! rows: set; feed -/
set_option maxHeartbeats 4000000 in
set_option maxRecDepth 100000 in
theorem pr_set {d : Nat} {σ : zSo} (a i v : Int32) (hR : R σ) : zPair (d + 20) 59 111 [.int a, .int i, .int v] σ := by
  show zA (d + 20) _ 0 [(0, .ref 0), (1, .int a), (2, .int i), (3, .int v)] [] σ _
  repeat refine zA_step rfl rfl ?_
  refine zA_call rfl rfl (cl_isRow (fun h1 h2 => ?_) (fun h => ?_))
  rotate_left
  · repeat refine zA_step rfl rfl ?_
    refine zA_ret rfl ⟨_, rfl, ?_⟩
    show zA (d + 20) _ 0 [(0, .ref 70), (1, .int a), (2, .int i), (3, .int v)] [] σ _
    repeat refine zA_step rfl rfl ?_
    refine zA_call rfl rfl (mo_isRow (fun r hr e => ?_) (fun h => ?_))
    · subst e
      rw [nu_I (by omega)] at h
      exact absurd ⟨by omega, by omega⟩ h
    · repeat refine zA_step rfl rfl ?_
      exact zA_ret rfl ⟨rfl, hR.kp (zK.rf.up rfl)⟩
  obtain ⟨r, hr, e⟩ := nu_of (n := 8) (x := a) h1 (by omega)
  subst e
  rcases hR.1 r hr with ⟨t0, m0⟩ | ⟨l, n, hl, hn, t1, t2, t3, m1, m2, m3⟩
  · have fin : zC (d + 20) 111 [.ref 70, .int (nI r), .int i, .int v] (zup σ 0 8 1) (fun r2 σ2 => r2 = some (.int (-1000011)) ∧ R σ2 ∧ ∀ k, 1000 ≤ k → σ2 k = σ k) := by
      show zA (d + 20) _ 0 [(0, .ref 70), (1, .int (nI r)), (2, .int i), (3, .int v)] [] _ _
      repeat refine zA_step rfl rfl ?_
      refine zA_call rfl rfl (mo_row_in (jm := 0) (pcg := 0) (pcb := 0) hr ?_)
      repeat refine zA_step rfl rfl ?_
      refine zA_ld (j := r) rfl rfl (by omega) (by decide) m0 ?_
      repeat refine zA_step rfl rfl ?_
      refine zA_call rfl rfl (mo_finding ?_)
      exact zA_ret rfl ⟨rfl, hR.st ((((zKg.rf.up rfl).up rfl).up rfl).up rfl) rfl⟩
    rcases nu_row8 hr with rfl | rfl | rfl | rfl | rfl | rfl | rfl | rfl
    all_goals
      repeat refine zA_step rfl rfl ?_
      refine zA_t t0 ?_
      repeat refine zA_step rfl rfl ?_
      refine zA_call rfl rfl (cl_finding ?_)
      exact zA_ret rfl ⟨_, rfl, fin⟩
  · have e1 : (nI n - 1).toInt64.toInt = (n : Int) - 1 := by
      rw [nu_wide, nu_sub (by rw [nu_I (by omega)]; simp only [Int32.reduceToInt]; omega) (by rw [nu_I (by omega)]; simp only [Int32.reduceToInt]; omega), nu_I (by omega)]
      rfl
    have fin1 : ¬ (0 ≤ i.toInt ∧ i.toInt < n) → zC (d + 20) 111 [.ref 70, .int (nI r), .int i, .int v] (zup σ 0 8 2) (fun r2 σ2 => r2 = some (.int (-1000012)) ∧ R σ2 ∧ ∀ k, 1000 ≤ k → σ2 k = σ k) := by
      intro hno
      show zA (d + 20) _ 0 [(0, .ref 70), (1, .int (nI r)), (2, .int i), (3, .int v)] [] _ _
      repeat refine zA_step rfl rfl ?_
      refine zA_call rfl rfl (mo_row_in (jm := 0) (pcg := 0) (pcb := 0) hr ?_)
      repeat refine zA_step rfl rfl ?_
      refine zA_ld (j := r) rfl rfl (by omega) (by decide) m1 ?_
      repeat refine zA_step rfl rfl ?_
      refine zA_t (by simp (disch := omega) only [nu_lt, nu_le, nu_eq, nu_cmp_lt, nu_cmp_gt, nu_cmp_ge, nu_cmp_le, nu_wide, Int32.toInt_add, Int32.toInt_sub, Int32.toInt_mul, nu_I, Nat.reducePow, nu_bm, Int32.reduceToInt, Int64.reduceToInt]; omega) ?_
      repeat refine zA_step rfl rfl ?_
      refine zA_ld (j := r) rfl rfl (by omega) (by decide) m2 ?_
      repeat refine zA_step rfl rfl ?_
      refine zA_call rfl rfl (mo_inI 0 ((n : Int) - 1) (by decide) e1 (fun z1 z2 => absurd ⟨z1, by omega⟩ hno) (fun z1 => ?_))
      repeat refine zA_step rfl rfl ?_
      refine zA_call rfl rfl (mo_finding ?_)
      exact zA_ret rfl ⟨rfl, hR.st ((((zKg.rf.up rfl).up rfl).up rfl).up rfl) rfl⟩
    have fin2 : ∀ k, k < n → zC (d + 20) 111 [.ref 70, .int (nI r), .int (nI k), .int v] (zup (zup σ (2 + 1 + 2 * r) k (cutv l v)) 0 8 0) (fun r2 σ2 => r2 = some (.int (cutv l v)) ∧ R σ2 ∧ ∀ k, 1000 ≤ k → σ2 k = σ k) := by
      intro k hk
      have m1' : zup (zup σ (2 + 1 + 2 * r) k (cutv l v)) 0 8 0 71 r = nI l := by
        rw [zup_o _ _ _ (by decide), zup_o _ _ _ (by omega)]; exact m1
      have m2' : zup (zup σ (2 + 1 + 2 * r) k (cutv l v)) 0 8 0 72 r = nI n := by
        rw [zup_o _ _ _ (by decide), zup_o _ _ _ (by omega)]; exact m2
      have m3' : ∀ j, zup (zup σ (2 + 1 + 2 * r) k (cutv l v)) 0 8 0 73 j = σ 73 j := by
        intro j
        rw [zup_o _ _ _ (by decide), zup_o _ _ _ (by omega)]
      generalize hσ1 : zup (zup σ (2 + 1 + 2 * r) k (cutv l v)) 0 8 0 = σ1 at m1' m2' m3'
      have go : zA (d + 20) 111 99 [(0, .ref 70), (1, .int (nI r)), (2, .int (nI k)), (3, .int v)] [.int (cutv l v), .int (40 * nI r + nI k), .ref 73] (zup (zup σ1 70 0 0) 70 1 0) (fun r2 σ2 => r2 = some (.int (cutv l v)) ∧ R σ2 ∧ ∀ k, 1000 ≤ k → σ2 k = σ k) := by
        refine zA_sto (j := 40 * r + k) rfl (by rw [nu_eq]; simp (disch := omega) only [Int32.toInt_add, Int32.toInt_sub, Int32.toInt_mul, nu_I, Nat.reducePow, nu_bm, Int32.reduceToInt, Int64.reduceToInt]; omega) (by omega) (by decide) ?_
        repeat refine zA_step rfl rfl ?_
        refine zA_ld (j := 40 * r + k) rfl (by rw [nu_eq]; simp (disch := omega) only [Int32.toInt_add, Int32.toInt_sub, Int32.toInt_mul, nu_I, Nat.reducePow, nu_bm, Int32.reduceToInt, Int64.reduceToInt]; omega) (by omega) (by decide) (v := cutv l v) ?_ ?_
        · rw [zup_k]
          simp [upd]
        refine zA_ret rfl ⟨rfl, ?_⟩
        subst hσ1
        refine hR.rows ((((zKg.rf.up (zrw_row hr _ (by simp) _)).up rfl).up rfl).up rfl |>.up rfl) (fun r' hr' => ?_) rfl
        by_cases e : r' = r
        · subst e
          refine Or.inr ⟨l, n, hl, hn, ?_, ?_, ?_, m1', m2', fun j hj => ?_⟩
          · rw [zup_o _ _ _ (by omega), zup_o _ _ _ (by omega), zup_o _ _ _ (by omega), zup_o _ _ _ (by omega), zup_o _ _ _ (by omega)]; exact t1
          · rw [zup_o _ _ _ (by omega), zup_o _ _ _ (by omega), zup_o _ _ _ (by omega), zup_o _ _ _ (by omega), zup_o _ _ _ (by omega)]; exact t2
          · rw [zup_o _ _ _ (by omega), zup_o _ _ _ (by omega), zup_o _ _ _ (by omega), zup_o _ _ _ (by omega), zup_o _ _ _ (by omega)]; exact t3
          · rw [zup_o _ _ _ (by omega), zup_o _ _ _ (by omega), zup_o _ _ _ (by omega), zup_o _ _ _ (by omega), zup_k, zup_k]
            simp only [upd]
            by_cases e : j = k
            · rw [if_pos e, if_pos (by omega)]
            · rw [if_neg e, if_neg (by omega), m3 j hj, zup_o _ _ _ (by omega), zup_o _ _ _ (by omega), zup_o _ _ _ (by omega), zup_o _ _ _ (by omega)]
        · refine (hR.1 r' hr').kp ?_ ?_ ?_ ?_ (fun k hk => ?_)
          · rw [zup_o _ _ _ (by omega), zup_o _ _ _ (by omega), zup_o _ _ _ (by omega), zup_o _ _ _ (by omega), zup_o _ _ _ (by omega)]
          · rw [zup_o _ _ _ (by omega), zup_o _ _ _ (by omega), zup_o _ _ _ (by omega), zup_o _ _ _ (by omega), zup_o _ _ _ (by omega)]
          · rw [zup_o _ _ _ (by omega), zup_o _ _ _ (by omega), zup_o _ _ _ (by omega), zup_o _ _ _ (by omega), zup_o _ _ _ (by omega)]
          · rw [zup_o _ _ _ (by omega), zup_o _ _ _ (by omega), zup_o _ _ _ (by omega), zup_o _ _ _ (by omega), zup_o _ _ _ (by omega)]
          · rw [zup_k]
            simp only [upd]
            rw [if_neg (by omega), zup_o _ _ _ (by omega), zup_o _ _ _ (by omega), zup_o _ _ _ (by omega), zup_o _ _ _ (by omega)]
      show zA (d + 20) _ 0 [(0, .ref 70), (1, .int (nI r)), (2, .int (nI k)), (3, .int v)] [] _ _
      repeat refine zA_step rfl rfl ?_
      refine zA_call rfl rfl (mo_row_in (jm := 0) (pcg := 0) (pcb := 0) hr ?_)
      repeat refine zA_step rfl rfl ?_
      refine zA_ld (j := r) rfl rfl (by omega) (by decide) m1' ?_
      repeat refine zA_step rfl rfl ?_
      refine zA_t (by simp (disch := omega) only [nu_lt, nu_le, nu_eq, nu_cmp_lt, nu_cmp_gt, nu_cmp_ge, nu_cmp_le, nu_wide, Int32.toInt_add, Int32.toInt_sub, Int32.toInt_mul, nu_I, Nat.reducePow, nu_bm, Int32.reduceToInt, Int64.reduceToInt]; omega) ?_
      repeat refine zA_step rfl rfl ?_
      refine zA_ld (j := r) rfl rfl (by omega) (by decide) m2' ?_
      repeat refine zA_step rfl rfl ?_
      refine zA_call rfl rfl (mo_inI 0 ((n : Int) - 1) (by decide) e1 (fun z1 z2 => ?_) (fun z1 => by rw [nu_I (by omega)] at z1; exact absurd ⟨by omega, by omega⟩ z1))
      repeat refine zA_step rfl rfl ?_
      refine zA_ld (j := r) rfl rfl (by omega) (by decide) m1' ?_
      repeat refine zA_step rfl rfl ?_
      rcases (show l = 0 ∨ l = 1 ∨ l = 2 by omega) with rfl | rfl | rfl
      · repeat refine zA_step rfl rfl ?_
        exact go
      · repeat refine zA_step rfl rfl ?_
        refine zA_ld (j := r) rfl rfl (by omega) (by decide) m1' ?_
        repeat refine zA_step rfl rfl ?_
        exact go
      · repeat refine zA_step rfl rfl ?_
        refine zA_ld (j := r) rfl rfl (by omega) (by decide) m1' ?_
        repeat refine zA_step rfl rfl ?_
        exact go
    have hno : ¬ (σ (2 + 2 * r) 1 = 0) := by rw [t1]; decide
    rcases nu_row8 hr with rfl | rfl | rfl | rfl | rfl | rfl | rfl | rfl
    all_goals
      repeat refine zA_step rfl rfl ?_
      refine zA_f hno ?_
      repeat refine zA_step rfl rfl ?_
      refine zA_call rfl rfl (cl_holds hr hn t3 (fun z1 z2 z3 => ?_) (fun z => ?_))
      · simp only [Int32.reduceToInt] at z3
        obtain ⟨k, hk, e⟩ := nu_of (n := n) (x := i) (by omega) (by omega)
        subst e
        repeat refine zA_step rfl rfl ?_
        refine zA_call rfl rfl (cl_cut hr hl t2 ?_)
        refine zA_sto (j := k) rfl rfl (by omega) (by decide) ?_
        repeat refine zA_step rfl rfl ?_
        refine zA_ld (j := k) rfl rfl (by omega) (by decide) (v := cutv l v) ?_ ?_
        · rw [zup_k]
          simp [upd]
        refine zA_call rfl rfl (cl_fine ?_)
        exact zA_ret rfl ⟨_, rfl, fin2 k hk⟩
      · simp only [Int32.reduceToInt] at z
        repeat refine zA_step rfl rfl ?_
        refine zA_call rfl rfl (cl_finding ?_)
        exact zA_ret rfl ⟨_, rfl, fin1 (by omega)⟩
