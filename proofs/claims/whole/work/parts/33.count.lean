/-! count -/
theorem zA_sw0 {d i t : Nat} {lo : zLo} {st : zSt} {σ : zSo} {x : Int32} {Q : Option Value → zSo → Prop} (k : zA d i t lo st σ Q) : zA d i (zsw x [] t) lo st σ Q := k
def rwb (σ : zSo) : Nat → Bool := fun r => !decide (σ 71 r = -1)
set_option maxHeartbeats 4000000 in
set_option maxRecDepth 100000 in
theorem cl_rowsThere {d : Nat} {σ : zSo} {Q : Option Value → zSo → Prop} (hR : ∀ r, r < 8 → rRow σ r) (hQ : Q (some (.int (nI (cn (rwb σ) 8)))) σ) : zC d 95 [.ref 0] σ Q := by
  have lp : ∀ n k, k + n = 8 → ∀ (x i : Int32), x = nI (cn (rwb σ) k) → i = nI k → zA d 95 4 [(0, .ref 0), (1, .int x), (2, .int i)] [] σ Q := by
    intro n
    induction n with
    | zero =>
      intro k hk x i ex ei
      subst ex ei
      have : k = 8 := by omega
      subst this
      refine zA_s0 rfl ?_
      repeat refine zA_step rfl rfl ?_
      exact zA_ret rfl hQ
    | succ n ih =>
      intro k hk x i ex ei
      subst ex ei
      have hk8 : k < 8 := by omega
      refine zA_s0 rfl ?_
      repeat refine zA_step rfl rfl ?_
      refine zA_f (by simp (disch := omega) only [nu_lt, nu_le, nu_eq, nu_cmp_lt, nu_cmp_gt, nu_cmp_ge, nu_cmp_le, nu_wide, Int32.toInt_add, Int32.toInt_sub, Int32.toInt_mul, nu_I, Nat.reducePow, nu_bm, Int32.reduceToInt, Int64.reduceToInt]; omega) ?_
      rcases hR k hk8 with ⟨t0, m0⟩ | ⟨l, n', hl, hn', t1, t2, t3, m1, m2, m3⟩
      · have hf : rwb σ k = false := by simp [rwb, m0]
        have go := ih (k + 1) (by omega) (nI (cn (rwb σ) k)) (nI k + 1) (by rw [cn_f hf]) (nI_1 k)
        rcases nu_row8 hk8 with rfl | rfl | rfl | rfl | rfl | rfl | rfl | rfl
        all_goals
          repeat refine zA_step rfl rfl ?_
          refine zA_t t0 ?_
          repeat refine zA_step rfl rfl ?_
          exact go
      · have ht : rwb σ k = true := by
          have : ¬ nI l = -1 := by rw [nu_eq, nu_I (by omega)]; simp only [Int32.reduceToInt]; omega
          simp [rwb, m1, this]
        have hno : ¬ (σ (2 + 2 * k) 1 = 0) := by rw [t1]; decide
        have go := ih (k + 1) (by omega) (nI (cn (rwb σ) k) + 1) (nI k + 1) (by rw [cn_t ht, ← nI_1]) (nI_1 k)
        rcases nu_row8 hk8 with rfl | rfl | rfl | rfl | rfl | rfl | rfl | rfl
        all_goals
          repeat refine zA_step rfl rfl ?_
          refine zA_f hno ?_
          repeat refine zA_step rfl rfl ?_
          exact go
  show zA d _ 0 [(0, .ref 0)] [] σ Q
  repeat refine zA_step rfl rfl ?_
  exact lp 8 0 (by omega) 0 0 rfl rfl
set_option maxHeartbeats 4000000 in
set_option maxRecDepth 100000 in
theorem mo_count_lp {d : Nat} {σ : zSo} {Q : Option Value → zSo → Prop} (hR : ∀ r, r < 8 → rRow σ r) {σ1 : zSo} (h1 : σ1 71 = σ 71) (hQ : Q (some (.int (nI (cn (rwb σ) 8)))) σ1) : zA d 185 54 [(0, .ref 70), (2, .int 0), (3, .int 0)] [] σ1 Q := by
  have lp : ∀ n k, k + n = 8 → ∀ (x i : Int32), x = nI (cn (rwb σ) k) → i = nI k → zA d 185 54 [(0, .ref 70), (2, .int x), (3, .int i)] [] σ1 Q := by
    intro n
    induction n with
    | zero =>
      intro k hk x i ex ei
      subst ex ei
      have : k = 8 := by omega
      subst this
      refine zA_s0 rfl ?_
      repeat refine zA_step rfl rfl ?_
      exact zA_ret rfl hQ
    | succ n ih =>
      intro k hk x i ex ei
      subst ex ei
      have hk8 : k < 8 := by omega
      refine zA_s0 rfl ?_
      repeat refine zA_step rfl rfl ?_
      refine zA_f (by simp (disch := omega) only [nu_lt, nu_le, nu_eq, nu_cmp_lt, nu_cmp_gt, nu_cmp_ge, nu_cmp_le, nu_wide, Int32.toInt_add, Int32.toInt_sub, Int32.toInt_mul, nu_I, Nat.reducePow, nu_bm, Int32.reduceToInt, Int64.reduceToInt]; omega) ?_
      repeat refine zA_step rfl rfl ?_
      rcases hR k hk8 with ⟨t0, m0⟩ | ⟨l, n', hl, hn', t1, t2, t3, m1, m2, m3⟩
      · have hf : rwb σ k = false := by simp [rwb, m0]
        refine zA_ld (j := k) rfl rfl (by omega) (by decide) (v := -1) (by rw [h1]; exact m0) ?_
        repeat refine zA_step rfl rfl ?_
        exact ih (k + 1) (by omega) _ _ (by rw [cn_f hf, Int32.add_zero]) (nI_1 k)
      · have ht : rwb σ k = true := by
          have : ¬ nI l = -1 := by rw [nu_eq, nu_I (by omega)]; simp only [Int32.reduceToInt]; omega
          simp [rwb, m1, this]
        refine zA_ld (j := k) rfl rfl (by omega) (by decide) (v := nI l) (by rw [h1]; exact m1) ?_
        repeat refine zA_step rfl rfl ?_
        refine zA_f (by simp (disch := omega) only [nu_lt, nu_le, nu_eq, nu_cmp_lt, nu_cmp_gt, nu_cmp_ge, nu_cmp_le, nu_wide, Int32.toInt_add, Int32.toInt_sub, Int32.toInt_mul, nu_I, Nat.reducePow, nu_bm, Int32.reduceToInt, Int64.reduceToInt]; omega) ?_
        repeat refine zA_step rfl rfl ?_
        exact ih (k + 1) (by omega) _ _ (by rw [cn_t ht, ← nI_1]) (nI_1 k)
  exact lp 8 0 (by omega) 0 0 rfl rfl
set_option maxHeartbeats 4000000 in
set_option maxRecDepth 100000 in
theorem pr_count {d : Nat} {σ : zSo} (x : Int32) (hR : R σ) : zPair (d + 20) 91 185 [.int x] σ := by
  obtain ⟨hrow, ⟨n, hn, ht1, ht2, ht3⟩, -, -, ⟨p, ⟨hW, hC, hM, -, -⟩, L, ⟨hL, ha1, -, ha2, -⟩⟩, -⟩ := id hR
  have hk : zK σ (zup σ 70 0 0) := zK.rf.up rfl
  have hM' : PM (zup σ 70 0 0 74) p := hM
  show zA (d + 20) _ 0 [(0, .ref 0), (1, .int x)] [] σ _
  by_cases h0 : x = 0
  · subst h0
    repeat refine zA_step rfl rfl ?_
    refine zA_call rfl rfl (cl_rowsThere hrow ?_)
    refine zA_ret rfl ⟨_, rfl, ?_⟩
    show zA (d + 20) _ 0 [(0, .ref 70), (1, .int 0)] [] σ _
    repeat refine zA_step rfl rfl ?_
    refine zA_dr rfl rfl rfl ?_
    exact mo_count_lp hrow rfl ⟨rfl, hR.kp hk⟩
  by_cases h1 : x = 1
  · subst h1
    repeat refine zA_step rfl rfl ?_
    refine zA_ret rfl ⟨_, rfl, ?_⟩
    show zA (d + 20) _ 0 [(0, .ref 70), (1, .int 1)] [] σ _
    repeat refine zA_step rfl rfl ?_
    refine zA_ret rfl ⟨?_, hR.kp hk⟩
    rw [hC.2.1]
    exact congrArg (fun v => some (Value.int v)) hM'.2.1
  by_cases h2 : x = 2
  · subst h2
    repeat refine zA_step rfl rfl ?_
    refine zA_ret rfl ⟨_, rfl, ?_⟩
    show zA (d + 20) _ 0 [(0, .ref 70), (1, .int 2)] [] σ _
    repeat refine zA_step rfl rfl ?_
    refine zA_ret rfl ⟨?_, hR.kp hk⟩
    rw [hC.2.2.1]
    exact congrArg (fun v => some (Value.int v)) hM'.2.2.1
  by_cases h3 : x = 3
  · subst h3
    repeat refine zA_step rfl rfl ?_
    refine zA_ret rfl ⟨_, rfl, ?_⟩
    show zA (d + 20) _ 0 [(0, .ref 70), (1, .int 3)] [] σ _
    repeat refine zA_step rfl rfl ?_
    refine zA_ret rfl ⟨?_, hR.kp hk⟩
    rw [hC.2.2.2.1]
    exact congrArg (fun v => some (Value.int v)) hM'.2.2.2.1
  by_cases h4 : x = 4
  · subst h4
    repeat refine zA_step rfl rfl ?_
    refine zA_call rfl rfl (cl_living (Or.inl rfl) hC hW (by omega) ?_)
    refine zA_ret rfl ⟨_, rfl, ?_⟩
    show zA (d + 20) _ 0 [(0, .ref 70), (1, .int 4)] [] σ _
    repeat refine zA_step rfl rfl ?_
    refine zA_call rfl rfl (mo_alive hM' hW (by omega) ?_)
    exact zA_ret rfl ⟨rfl, hR.kp hk⟩
  by_cases h5 : x = 5
  · subst h5
    repeat refine zA_step rfl rfl ?_
    refine zA_ret rfl ⟨_, rfl, ?_⟩
    show zA (d + 20) _ 0 [(0, .ref 70), (1, .int 5)] [] σ _
    repeat refine zA_step rfl rfl ?_
    refine zA_ret rfl ⟨?_, hR.kp hk⟩
    rw [ha1]
    exact congrArg (fun v => some (Value.int v)) ha2
  by_cases h6 : x = 6
  · subst h6
    repeat refine zA_step rfl rfl ?_
    refine zA_ret rfl ⟨_, rfl, ?_⟩
    show zA (d + 20) _ 0 [(0, .ref 70), (1, .int 6)] [] σ _
    repeat refine zA_step rfl rfl ?_
    refine zA_ret rfl ⟨?_, hR.kp hk⟩
    rw [ht1]
    exact congrArg (fun v => some (Value.int v)) ht2
  repeat refine zA_step rfl rfl ?_
  refine zA_f h0 (zA_f h1 (zA_f h2 (zA_f h3 (zA_f h4 (zA_f h5 (zA_f h6 (zA_sw0 ?_)))))))
  repeat refine zA_step rfl rfl ?_
  refine zA_ret rfl ⟨_, rfl, ?_⟩
  show zA (d + 20) _ 0 [(0, .ref 70), (1, .int x)] [] σ _
  repeat refine zA_step rfl rfl ?_
  refine zA_f h0 (zA_f h1 (zA_f h2 (zA_f h3 (zA_f h4 (zA_f h5 (zA_f h6 (zA_sw0 ?_)))))))
  repeat refine zA_step rfl rfl ?_
  exact zA_ret rfl ⟨rfl, hR.kp hk⟩
