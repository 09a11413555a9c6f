/-! rows: drop, set -/
theorem nu_row8 {r : Nat} (hr : r < 8) : r = 0 ∨ r = 1 ∨ r = 2 ∨ r = 3 ∨ r = 4 ∨ r = 5 ∨ r = 6 ∨ r = 7 := by omega
set_option maxHeartbeats 4000000 in
set_option maxRecDepth 100000 in
theorem mo_row_in {d jm pcg pcb : Nat} {σ1 : zSo} {Q : Option Value → zSo → Prop} {r : Nat} (hr : r < 8) (K : Q (some (.int 1)) σ1) : zC (d + 1) 109 [.int (nI r)] σ1 Q := by
  refine mo_isRow (fun r hr e => K) (fun h => ?_)
  rw [nu_I (by omega)] at h
  exact absurd ⟨by omega, by omega⟩ h
set_option maxHeartbeats 4000000 in
set_option maxRecDepth 100000 in
theorem pr_drop {d : Nat} {σ : zSo} (a : Int32) (hR : R σ) : zPair (d + 20) 61 113 [.int a] σ := by
  show zA (d + 20) _ 0 [(0, .ref 0), (1, .int a)] [] σ _
  repeat refine zA_step rfl rfl ?_
  refine zA_call rfl rfl (cl_isRow (fun h1 h2 => ?_) (fun h => ?_))
  rotate_left
  · repeat refine zA_step rfl rfl ?_
    refine zA_ret rfl ⟨_, rfl, ?_⟩
    show zA (d + 20) _ 0 [(0, .ref 70), (1, .int a)] [] σ _
    repeat refine zA_step rfl rfl ?_
    refine zA_call rfl rfl (mo_isRow (fun r hr e => ?_) (fun h => ?_))
    · subst e
      rw [nu_I (by omega)] at h
      exact absurd ⟨by omega, by omega⟩ h
    · repeat refine zA_step rfl rfl ?_
      exact zA_ret rfl ⟨rfl, hR.kp (zK.rf.up rfl)⟩
  obtain ⟨r, hr, e⟩ := nu_of (n := 8) (x := a) h1 (by omega)
  subst e
  rcases hR.1 r hr with ⟨t0, m0⟩ | ⟨l, n, hl, hn, t1, t2, t3, m1, m2, m3⟩
  · have fin : zC (d + 20) 113 [.ref 70, .int (nI r)] (zup σ 0 8 1) (fun r2 σ2 => r2 = some (.int (-1000011)) ∧ R σ2 ∧ ∀ k, 1000 ≤ k → σ2 k = σ k) := by
      show zA (d + 20) _ 0 [(0, .ref 70), (1, .int (nI r))] [] _ _
      repeat refine zA_step rfl rfl ?_
      refine zA_call rfl rfl (mo_row_in (jm := 0) (pcg := 0) (pcb := 0) hr ?_)
      repeat refine zA_step rfl rfl ?_
      refine zA_ld (j := r) rfl rfl (by omega) (by decide) m0 ?_
      repeat refine zA_step rfl rfl ?_
      refine zA_call rfl rfl (mo_finding ?_)
      exact zA_ret rfl ⟨rfl, hR.st ((((zKg.rf.up rfl).up rfl).up rfl).up rfl) rfl⟩
    rcases nu_row8 hr with rfl | rfl | rfl | rfl | rfl | rfl | rfl | rfl
    all_goals
      repeat refine zA_step rfl rfl ?_
      refine zA_t t0 ?_
      repeat refine zA_step rfl rfl ?_
      refine zA_call rfl rfl (cl_finding ?_)
      exact zA_ret rfl ⟨_, rfl, fin⟩
  · have fin : zC (d + 20) 113 [.ref 70, .int (nI r)] (zup (zup σ (2 + 2 * r) 1 0) 0 8 0) (fun r2 σ2 => r2 = some (.int (nI n)) ∧ R σ2 ∧ ∀ k, 1000 ≤ k → σ2 k = σ k) := by
      have m1' : zup (zup σ (2 + 2 * r) 1 0) 0 8 0 71 r = nI l := by
        rw [zup_o _ _ _ (by decide), zup_o _ _ _ (by omega)]; exact m1
      have m2' : zup (zup σ (2 + 2 * r) 1 0) 0 8 0 72 r = nI n := by
        rw [zup_o _ _ _ (by decide), zup_o _ _ _ (by omega)]; exact m2
      show zA (d + 20) _ 0 [(0, .ref 70), (1, .int (nI r))] [] _ _
      repeat refine zA_step rfl rfl ?_
      refine zA_call rfl rfl (mo_row_in (jm := 0) (pcg := 0) (pcb := 0) hr ?_)
      repeat refine zA_step rfl rfl ?_
      refine zA_ld (j := r) rfl rfl (by omega) (by decide) m1' ?_
      repeat refine zA_step rfl rfl ?_
      refine zA_t (by simp (disch := omega) only [nu_lt, nu_le, nu_eq, nu_cmp_lt, nu_cmp_gt, nu_cmp_ge, nu_cmp_le, nu_wide, Int32.toInt_add, Int32.toInt_sub, Int32.toInt_mul, nu_I, Nat.reducePow, nu_bm, Int32.reduceToInt, Int64.reduceToInt]; omega) ?_
      repeat refine zA_step rfl rfl ?_
      refine zA_sto (j := r) rfl rfl (by omega) (by decide) ?_
      repeat refine zA_step rfl rfl ?_
      refine zA_ld (j := r) rfl rfl (by omega) (by decide) m2' ?_
      refine zA_ret rfl ⟨rfl, hR.rows ((((zKg.rf.up (zrw_row hr _ (by simp) _)).up rfl).up rfl).up rfl |>.up rfl) (fun r' hr' => ?_) rfl⟩
      by_cases e : r' = r
      · subst e
        refine Or.inl ⟨?_, ?_⟩
        · rw [zup_o _ _ _ (by omega), zup_o _ _ _ (by omega), zup_o _ _ _ (by omega), zup_o _ _ _ (by omega), zup_k]
          simp [upd]
        · rw [zup_k]
          simp [upd]
      · refine (hR.1 r' hr').kp ?_ ?_ ?_ ?_ (fun k hk => ?_)
        · rw [zup_o _ _ _ (by omega), zup_o _ _ _ (by omega), zup_o _ _ _ (by omega), zup_o _ _ _ (by omega), zup_o _ _ _ (by omega)]
        · rw [zup_o _ _ _ (by omega), zup_o _ _ _ (by omega), zup_o _ _ _ (by omega), zup_o _ _ _ (by omega), zup_o _ _ _ (by omega)]
        · rw [zup_k]
          simp only [upd]
          rw [if_neg e, zup_o _ _ _ (by omega), zup_o _ _ _ (by omega), zup_o _ _ _ (by omega), zup_o _ _ _ (by omega)]
        · rw [zup_o _ _ _ (by omega), zup_o _ _ _ (by omega), zup_o _ _ _ (by omega), zup_o _ _ _ (by omega), zup_o _ _ _ (by omega)]
        · rw [zup_o _ _ _ (by omega), zup_o _ _ _ (by omega), zup_o _ _ _ (by omega), zup_o _ _ _ (by omega), zup_o _ _ _ (by omega)]
    rcases nu_row8 hr with rfl | rfl | rfl | rfl | rfl | rfl | rfl | rfl
    all_goals
      repeat refine zA_step rfl rfl ?_
      refine zA_f (fun z => by rw [show _ = _ from t1] at z; cases z) ?_
      repeat refine zA_step rfl rfl ?_
      refine zA_call rfl rfl (cl_fine ?_)
      refine zA_ret rfl ⟨nI n, ?_, fin⟩
      rw [← t3]
      rfl
set_option maxHeartbeats 4000000 in
set_option maxRecDepth 100000 in
theorem cl_holds {d r N : Nat} {σ : zSo} {Q : Option Value → zSo → Prop} {i n : Int32} (hr : r < 8) (hN : N ≤ 40) (hs : σ (2 + 2 * r) 3 = nI N) (ht : 0 ≤ i.toInt → 0 ≤ n.toInt → i.toInt + n.toInt ≤ N → Q (some (.int 1)) σ) (hf : ¬ (0 ≤ i.toInt ∧ 0 ≤ n.toInt ∧ i.toInt + n.toInt ≤ N) → Q (some (.int 0)) σ) : zC d 43 [.ref (2 + 2 * r), .int i, .int n] σ Q := by
  show zA d _ 0 [(0, .ref (2 + 2 * r)), (1, .int i), (2, .int n)] [] σ Q
  rcases nu_row8 hr with rfl | rfl | rfl | rfl | rfl | rfl | rfl | rfl
  all_goals
    repeat refine zA_step rfl rfl ?_
    refine zA_c (fun c => ?_) (fun c => ?_)
    all_goals simp only [nu_lt, Int32.reduceToInt] at c
    · repeat refine zA_step rfl rfl ?_
      exact zA_ret rfl (hf (by omega))
    repeat refine zA_step rfl rfl ?_
    refine zA_c (fun c2 => ?_) (fun c2 => ?_)
    all_goals simp only [nu_lt, Int32.reduceToInt] at c2
    · repeat refine zA_step rfl rfl ?_
      exact zA_ret rfl (hf (by omega))
    repeat refine zA_step rfl rfl ?_
    rw [show σ _ 3 = nI N from hs]
    refine zA_c (fun c3 => ?_) (fun c3 => ?_)
    all_goals rw [nu_lt, nu_I (by omega)] at c3
    · repeat refine zA_step rfl rfl ?_
      exact zA_ret rfl (hf (by omega))
    repeat refine zA_step rfl rfl ?_
    rw [show σ _ 3 = nI N from hs]
    have e := nu_sub (x := nI N) (y := n) (by rw [nu_I (by omega)]; omega) (by rw [nu_I (by omega)]; omega)
    rw [nu_I (by omega)] at e
    refine zA_c (fun c4 => ?_) (fun c4 => ?_)
    all_goals rw [nu_lt, e] at c4
    · repeat refine zA_step rfl rfl ?_
      exact zA_ret rfl (hf (by omega))
    · repeat refine zA_step rfl rfl ?_
      exact zA_ret rfl (ht (by omega) (by omega) (by omega))
/-- the lowest bits of v, by the lane -/
def cutv (l : Nat) (v : Int32) : Int32 := if l = 0 then v.toInt8.toInt32 else if l = 1 then v.toInt16.toInt32 else v
set_option maxHeartbeats 4000000 in
set_option maxRecDepth 100000 in
theorem cl_cut {d r l : Nat} {σ : zSo} {Q : Option Value → zSo → Prop} {v : Int32} (hr : r < 8) (hl : l < 3) (hs : σ (2 + 2 * r) 2 = nI l) (hQ : Q (some (.int (cutv l v))) σ) : zC d 44 [.ref (2 + 2 * r), .int v] σ Q := by
  show zA d _ 0 [(0, .ref (2 + 2 * r)), (1, .int v)] [] σ Q
  rcases nu_row8 hr with rfl | rfl | rfl | rfl | rfl | rfl | rfl | rfl
  all_goals
    repeat refine zA_step rfl rfl ?_
    rw [show σ _ 2 = nI l from hs]
    rcases (show l = 0 ∨ l = 1 ∨ l = 2 by omega) with rfl | rfl | rfl
    · repeat refine zA_step rfl rfl ?_
      exact zA_ret rfl hQ
    · repeat refine zA_step rfl rfl ?_
      rw [show σ _ 2 = nI 1 from hs]
      repeat refine zA_step rfl rfl ?_
      exact zA_ret rfl hQ
    · repeat refine zA_step rfl rfl ?_
      rw [show σ _ 2 = nI 2 from hs]
      repeat refine zA_step rfl rfl ?_
      exact zA_ret rfl hQ
