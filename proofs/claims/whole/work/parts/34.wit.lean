/-! witness, memory, as -/
theorem nu_abs {x : Int32} {n : Nat} (hn : n < 1000) {p : Prop} (h : ¬ (0 ≤ x.toInt ∧ x.toInt < n)) (s : Nat) (hs : s < n) (e : x = nI s) : p := by
  subst e
  rw [nu_I (by omega)] at h
  exact absurd ⟨by omega, by omega⟩ h
theorem nu_abs2 {s n : Nat} (hs : s < n) (hn : n < 1000) {p : Prop} (h : ¬ (0 ≤ (nI s).toInt ∧ (nI s).toInt < n)) : p := by
  rw [nu_I (by omega)] at h
  exact absurd ⟨by omega, by omega⟩ h
set_option maxHeartbeats 4000000 in
set_option maxRecDepth 100000 in
theorem pr_witness {d : Nat} {σ : zSo} (x y : Int32) (hR : R σ) : zPair (d + 20) 70 152 [.int x, .int y] σ := by
  obtain ⟨-, -, -, -, ⟨p, ⟨hW, hC, hM, -, -⟩, -⟩, -⟩ := id hR
  have ww6 := hW.2.2.2.2.1
  have wy := hW.2.2.1
  have hk : zK σ (zup σ 70 0 0) := zK.rf.up rfl
  have hM' : PM (zup σ 70 0 0 74) p := hM
  show zA (d + 20) _ 0 [(0, .ref 0), (1, .int x), (2, .int y)] [] σ _
  repeat refine zA_step rfl rfl ?_
  refine zA_call rfl rfl (cl_isWitness hC ww6 (fun w hw e => ?_) (fun h => ?_))
  rotate_left
  · repeat refine zA_step rfl rfl ?_
    refine zA_ret rfl ⟨_, rfl, ?_⟩
    show zA (d + 20) _ 0 [(0, .ref 70), (1, .int x), (2, .int y)] [] σ _
    repeat refine zA_step rfl rfl ?_
    refine zA_call rfl rfl (mo_isWitness hM' ww6 (fun s' hs' e => nu_abs (by omega) h s' hs' e) (fun h => ?_))
    repeat refine zA_step rfl rfl ?_
    exact zA_ret rfl ⟨rfl, hR.kp hk⟩
  subst e
  obtain ⟨-, ⟨wa1, wa2⟩, we, -⟩ := hW.2.2.2.2.2.2.1 w hw
  have tomod : ∀ (Q : Option Value → zSo → Prop), zA (d + 20) 152 16 [(0, .ref 70), (1, .int (nI w)), (2, .int y)] [] (zup σ 70 0 0) Q → zC (d + 20) 152 [.ref 70, .int (nI w), .int y] σ Q := by
    intro Q K
    show zA (d + 20) _ 0 [(0, .ref 70), (1, .int (nI w)), (2, .int y)] [] σ _
    repeat refine zA_step rfl rfl ?_
    refine zA_call rfl rfl (mo_isWitness hM' ww6 (fun s' hs' e => ?_) (fun h => nu_abs2 hw (by omega) h))
    refine zA_s0 rfl ?_
    exact K
  have u := hC.2.2.2.2.2.1 w hw
  have v := hM'.2.2.2.2.2.1 w hw
  have hmr : mR 74 := Or.inl rfl
  by_cases h0 : y = 0
  · subst h0
    repeat refine zA_step rfl rfl ?_
    refine zA_call rfl rfl (cl_age (Or.inl rfl) hC hW (by omega) hw ?_)
    refine zA_ret rfl ⟨_, rfl, tomod _ ?_⟩
    repeat refine zA_step rfl rfl ?_
    refine zA_call rfl rfl (mo_of hmr (by omega) (k := 1) (by omega) v.2.1 ?_)
    exact zA_ret rfl ⟨rfl, hR.kp hk⟩
  by_cases h1 : y = 1
  · subst h1
    repeat refine zA_step rfl rfl ?_
    refine zA_ld (j := w) rfl rfl (by omega) (by decide) u.2.2.1 ?_
    refine zA_ret rfl ⟨_, rfl, tomod _ ?_⟩
    repeat refine zA_step rfl rfl ?_
    refine zA_call rfl rfl (mo_of hmr (by omega) (k := 2) (by omega) v.2.2.1 ?_)
    exact zA_ret rfl ⟨rfl, hR.kp hk⟩
  by_cases h2 : y = 2
  · subst h2
    repeat refine zA_step rfl rfl ?_
    refine zA_call rfl rfl (cl_isAlive (Or.inl rfl) hC hW (by omega) hw (fun h => ?_) (fun h => ?_))
    · repeat refine zA_step rfl rfl ?_
      refine zA_ret rfl ⟨_, rfl, tomod _ ?_⟩
      repeat refine zA_step rfl rfl ?_
      refine zA_call rfl rfl (mo_isAlive hmr (by omega) v.2.1 v.2.2.1 (by omega) (by omega) (fun h => ?_) (fun h2 => absurd h h2))
      repeat refine zA_step rfl rfl ?_
      exact zA_ret rfl ⟨rfl, hR.kp hk⟩
    · repeat refine zA_step rfl rfl ?_
      refine zA_ret rfl ⟨_, rfl, tomod _ ?_⟩
      repeat refine zA_step rfl rfl ?_
      refine zA_call rfl rfl (mo_isAlive hmr (by omega) v.2.1 v.2.2.1 (by omega) (by omega) (fun h2 => absurd h2 h) (fun h2 => ?_))
      repeat refine zA_step rfl rfl ?_
      exact zA_ret rfl ⟨rfl, hR.kp hk⟩
  by_cases h3 : y = 3
  · subst h3
    repeat refine zA_step rfl rfl ?_
    refine zA_ld (j := w) rfl rfl (by omega) (by decide) u.2.2.2 ?_
    refine zA_ret rfl ⟨_, rfl, tomod _ ?_⟩
    repeat refine zA_step rfl rfl ?_
    refine zA_call rfl rfl (mo_of hmr (by omega) (k := 3) (by omega) v.2.2.2 ?_)
    exact zA_ret rfl ⟨rfl, hR.kp hk⟩
  by_cases h4 : y = 4
  · subst h4
    repeat refine zA_step rfl rfl ?_
    refine zA_call rfl rfl (cl_stonesSwornBy (Or.inl rfl) hC hW (by omega) hw ?_)
    refine zA_ret rfl ⟨_, rfl, tomod _ ?_⟩
    repeat refine zA_step rfl rfl ?_
    refine zA_call rfl rfl (mo_stonesOf hM' hW (by omega) hw ?_)
    exact zA_ret rfl ⟨rfl, hR.kp hk⟩
  repeat refine zA_step rfl rfl ?_
  refine zA_f h0 (zA_f h1 (zA_f h2 (zA_f h3 (zA_f h4 (zA_sw0 ?_)))))
  repeat refine zA_step rfl rfl ?_
  refine zA_ret rfl ⟨_, rfl, tomod _ ?_⟩
  repeat refine zA_step rfl rfl ?_
  refine zA_f h0 (zA_f h1 (zA_f h2 (zA_f h3 (zA_f h4 (zA_sw0 ?_)))))
  repeat refine zA_step rfl rfl ?_
  exact zA_ret rfl ⟨rfl, hR.kp hk⟩
set_option maxHeartbeats 4000000 in
set_option maxRecDepth 100000 in
theorem pr_memory {d : Nat} {σ : zSo} (x y t : Int32) (hR : R σ) : zPair (d + 20) 71 153 [.int x, .int y, .int t] σ := by
  obtain ⟨-, -, -, -, ⟨p, ⟨hW, hC, hM, -, -⟩, -⟩, -⟩ := id hR
  have ww6 := hW.2.2.2.2.1
  have ws6 := hW.2.2.2.1
  have wy := hW.2.2.1
  have hk : zK σ (zup σ 70 0 0) := zK.rf.up rfl
  have hM' : PM (zup σ 70 0 0 74) p := hM
  have hmr : mR 74 := Or.inl rfl
  have bad : ¬ ((0 ≤ x.toInt ∧ x.toInt < pw p) ∧ (0 ≤ y.toInt ∧ y.toInt < ps p) ∧ (0 ≤ t.toInt ∧ t.toInt ≤ 3)) → zC (d + 20) 153 [.ref 70, .int x, .int y, .int t] σ (fun r2 σ2 => r2 = some (.int (-1000001)) ∧ R σ2 ∧ ∀ k, 1000 ≤ k → σ2 k = σ k) := by
    intro hn
    show zA (d + 20) _ 0 [(0, .ref 70), (1, .int x), (2, .int y), (3, .int t)] [] σ _
    repeat refine zA_step rfl rfl ?_
    refine zA_call rfl rfl (mo_isWitness hM' ww6 (fun w hw e => ?_) (fun h => ?_))
    rotate_left
    · repeat refine zA_step rfl rfl ?_
      exact zA_ret rfl ⟨rfl, hR.kp hk⟩
    subst e
    repeat refine zA_step rfl rfl ?_
    refine zA_call rfl rfl (mo_isStone hM' ws6 (fun s hs e => ?_) (fun h => ?_))
    rotate_left
    · repeat refine zA_step rfl rfl ?_
      exact zA_ret rfl ⟨rfl, hR.kp hk⟩
    subst e
    repeat refine zA_step rfl rfl ?_
    refine zA_call rfl rfl (mo_inI 0 3 (by decide) (by decide) (fun z1 z2 => ?_) (fun z => ?_))
    · rw [nu_I (by omega), nu_I (by omega)] at hn
      exact absurd ⟨⟨by omega, by omega⟩, ⟨by omega, by omega⟩, ⟨z1, z2⟩⟩ hn
    · repeat refine zA_step rfl rfl ?_
      exact zA_ret rfl ⟨rfl, hR.kp hk⟩
  show zA (d + 20) _ 0 [(0, .ref 0), (1, .int x), (2, .int y), (3, .int t)] [] σ _
  repeat refine zA_step rfl rfl ?_
  refine zA_call rfl rfl (cl_isWitness hC ww6 (fun w hw e => ?_) (fun h => ?_))
  rotate_left
  · repeat refine zA_step rfl rfl ?_
    exact zA_ret rfl ⟨_, rfl, bad (fun z => h z.1)⟩
  subst e
  repeat refine zA_step rfl rfl ?_
  refine zA_call rfl rfl (cl_isStone hC ws6 (fun s hs e => ?_) (fun h => ?_))
  rotate_left
  · repeat refine zA_step rfl rfl ?_
    exact zA_ret rfl ⟨_, rfl, bad (fun z => h z.2.1)⟩
  subst e
  repeat refine zA_step rfl rfl ?_
  refine zA_c (fun c1 => ?_) (fun c1 => ?_)
  all_goals simp only [nu_lt, Int32.reduceToInt] at c1
  · repeat refine zA_step rfl rfl ?_
    exact zA_ret rfl ⟨_, rfl, bad (fun z => by omega)⟩
  repeat refine zA_step rfl rfl ?_
  refine zA_c (fun c2 => ?_) (fun c2 => ?_)
  all_goals simp only [nu_le, Int32.reduceToInt] at c2
  rotate_left
  · repeat refine zA_step rfl rfl ?_
    exact zA_ret rfl ⟨_, rfl, bad (fun z => by omega)⟩
  have tomod : ∀ (Q : Option Value → zSo → Prop), zA (d + 20) 153 36 [(0, .ref 70), (1, .int (nI w)), (2, .int (nI s)), (3, .int t)] [] (zup σ 70 0 0) Q → zC (d + 20) 153 [.ref 70, .int (nI w), .int (nI s), .int t] σ Q := by
    intro Q K
    show zA (d + 20) _ 0 [(0, .ref 70), (1, .int (nI w)), (2, .int (nI s)), (3, .int t)] [] σ _
    repeat refine zA_step rfl rfl ?_
    refine zA_call rfl rfl (mo_isWitness hM' ww6 (fun s' hs' e => ?_) (fun h => nu_abs2 hw (by omega) h))
    repeat refine zA_step rfl rfl ?_
    refine zA_call rfl rfl (mo_isStone hM' ws6 (fun s' hs' e => ?_) (fun h => nu_abs2 hs (by omega) h))
    repeat refine zA_step rfl rfl ?_
    refine zA_call rfl rfl (mo_inI 0 3 (by decide) (by decide) (fun z1 z2 => ?_) (fun z => absurd ⟨by omega, by omega⟩ z))
    refine zA_s0 rfl ?_
    exact K
  obtain ⟨j, hj, e⟩ := nu_of (n := 4) (x := t) (by omega) (by omega)
  subst e
  have b := (hC.2.2.2.2.2.2 w s hw hs)
  have m := hM'.2.2.2.2.2.2 w s hw hs
  by_cases h3 : j = 3
  · subst h3
    repeat refine zA_step rfl rfl ?_
    refine zA_call rfl rfl (cl_oath (Or.inl rfl) hC hW (by omega) hw hs ?_)
    refine zA_ret rfl ⟨_, rfl, tomod _ ?_⟩
    repeat refine zA_step rfl rfl ?_
    refine zA_call rfl rfl (mo_says hmr hM' hW (by omega) hw hs ?_)
    repeat refine zA_step rfl rfl ?_
    exact zA_ret rfl ⟨rfl, hR.kp hk⟩
  have fin : ∀ v, v = e3 (pm p w s) j → zC (d + 20) 153 [.ref 70, .int (nI w), .int (nI s), .int (nI j)] σ (fun r2 σ2 => r2 = some (.int v) ∧ R σ2 ∧ ∀ k, 1000 ≤ k → σ2 k = σ k) := by
    intro v hv
    refine tomod _ ?_
    repeat refine zA_step rfl rfl ?_
    refine zA_f (by simp (disch := omega) only [nu_lt, nu_le, nu_eq, nu_cmp_lt, nu_cmp_gt, nu_cmp_ge, nu_cmp_le, nu_wide, Int32.toInt_add, Int32.toInt_sub, Int32.toInt_mul, nu_I, Nat.reducePow, nu_bm, Int32.reduceToInt, Int64.reduceToInt]; omega) ?_
    repeat refine zA_step rfl rfl ?_
    refine zA_call rfl rfl (mo_known (by omega) (by omega) ?_)
    repeat refine zA_step rfl rfl ?_
    refine zA_ld (j := 35 + 3 * (6 * w + s) + j) rfl (nI_add _ _) (by omega) (by decide) (m j (by omega)) ?_
    repeat refine zA_step rfl rfl ?_
    rw [hv]
    exact zA_ret rfl ⟨rfl, hR.kp hk⟩
  repeat refine zA_step rfl rfl ?_
  refine zA_f (by simp (disch := omega) only [nu_lt, nu_le, nu_eq, nu_cmp_lt, nu_cmp_gt, nu_cmp_ge, nu_cmp_le, nu_wide, Int32.toInt_add, Int32.toInt_sub, Int32.toInt_mul, nu_I, Nat.reducePow, nu_bm, Int32.reduceToInt, Int64.reduceToInt]; omega) ?_
  repeat refine zA_step rfl rfl ?_
  refine zA_call rfl rfl (cl_placeOf (by omega) (by omega) ?_)
  repeat refine zA_step rfl rfl ?_
  cases hm : pm p w s with
  | none =>
    refine zA_ld (j := 6 * w + s) rfl rfl (by omega) (by decide) (b.1 hm) ?_
    repeat refine zA_step rfl rfl ?_
    exact zA_ret rfl ⟨_, rfl, fin _ (by rw [hm]; rfl)⟩
  | some q =>
    obtain ⟨b6, b7, b8⟩ := b.2 q hm
    obtain ⟨m1, ⟨m2, m3⟩, m4⟩ := hW.2.2.2.2.2.2.2 w s hw hs _ hm
    refine zA_ld (j := 6 * w + s) rfl rfl (by omega) (by decide) b7 ?_
    repeat refine zA_step rfl rfl ?_
    refine zA_f (by simp (disch := omega) only [nu_lt, nu_le, nu_eq, nu_cmp_lt, nu_cmp_gt, nu_cmp_ge, nu_cmp_le, nu_wide, Int32.toInt_add, Int32.toInt_sub, Int32.toInt_mul, nu_I, Nat.reducePow, nu_bm, Int32.reduceToInt, Int64.reduceToInt]; omega) ?_
    repeat refine zA_step rfl rfl ?_
    rcases (show j = 0 ∨ j = 1 ∨ j = 2 by omega) with rfl | rfl | rfl
    · repeat refine zA_step rfl rfl ?_
      refine zA_ld (j := 6 * w + s) rfl rfl (by omega) (by decide) b6 ?_
      repeat refine zA_step rfl rfl ?_
      exact zA_ret rfl ⟨_, rfl, fin _ (by rw [hm]; rfl)⟩
    · repeat refine zA_step rfl rfl ?_
      refine zA_ld (j := 6 * w + s) rfl rfl (by omega) (by decide) b7 ?_
      repeat refine zA_step rfl rfl ?_
      exact zA_ret rfl ⟨_, rfl, fin _ (by rw [hm]; rfl)⟩
    · repeat refine zA_step rfl rfl ?_
      refine zA_ld (j := 6 * w + s) rfl rfl (by omega) (by decide) b8 ?_
      repeat refine zA_step rfl rfl ?_
      exact zA_ret rfl ⟨_, rfl, fin _ (by rw [hm]; rfl)⟩
def iob (k o : Nat) : Bool := decide (o = 0 ∨ k = o ∨ (o = 1 ∧ k < 4) ∨ (o = 4 ∧ k = 5))
set_option maxHeartbeats 4000000 in
set_option maxRecDepth 100000 in
theorem cl_isOf {d k o : Nat} {σ : zSo} {Q : Option Value → zSo → Prop} (hS : rStat σ) (hk : 1 ≤ k ∧ k ≤ 5) (ho : o < 6) (ht : iob k o = true → Q (some (.int 1)) σ) (hf : iob k o = false → Q (some (.int 0)) σ) : zC d 106 [.int (nI k), .int (nI o)] σ Q := by
  have a0 : σ 1000 0 = 0 := (hS 0 (by omega)).1
  have a1 : σ 1000 1 = 0 := (hS 1 (by omega)).1
  have a2 : σ 1000 2 = 1 := (hS 2 (by omega)).1
  have a3 : σ 1000 3 = 1 := (hS 3 (by omega)).1
  have a4 : σ 1000 4 = 0 := (hS 4 (by omega)).1
  have a5 : σ 1000 5 = 4 := (hS 5 (by omega)).1
  have c1 : (nI 1).toNatClampNeg = 1 := rfl
  have c2 : (nI 2).toNatClampNeg = 2 := rfl
  have c3 : (nI 3).toNatClampNeg = 3 := rfl
  have c4 : (nI 4).toNatClampNeg = 4 := rfl
  have c5 : (nI 5).toNatClampNeg = 5 := rfl
  rcases (show k = 1 ∨ k = 2 ∨ k = 3 ∨ k = 4 ∨ k = 5 by omega) with rfl | rfl | rfl | rfl | rfl
  all_goals
    rcases (show o = 0 ∨ o = 1 ∨ o = 2 ∨ o = 3 ∨ o = 4 ∨ o = 5 by omega) with rfl | rfl | rfl | rfl | rfl | rfl
    all_goals
      show zA d _ 0 [(0, .int (nI _)), (1, .int (nI _))] [] σ Q
      repeat (first | refine zA_s0 rfl ?_ | simp only [c1, c2, c3, c4, c5, nu_c0, nu_c1, nu_c2, nu_c3, nu_c4, nu_c5, a0, a1, a2, a3, a4, a5])
      first
      | exact zA_ret rfl (ht (by decide))
      | exact zA_ret rfl (hf (by decide))
set_option maxHeartbeats 4000000 in
set_option maxRecDepth 100000 in
theorem mo_isOf {d k o : Nat} {σ : zSo} {Q : Option Value → zSo → Prop} (hk : 1 ≤ k ∧ k ≤ 5) (ho : o < 6) (ht : iob k o = true → Q (some (.int 1)) σ) (hf : iob k o = false → Q (some (.int 0)) σ) : zC d 175 [.int (nI k), .int (nI o)] σ Q := by
  rcases (show k = 1 ∨ k = 2 ∨ k = 3 ∨ k = 4 ∨ k = 5 by omega) with rfl | rfl | rfl | rfl | rfl
  all_goals
    rcases (show o = 0 ∨ o = 1 ∨ o = 2 ∨ o = 3 ∨ o = 4 ∨ o = 5 by omega) with rfl | rfl | rfl | rfl | rfl | rfl
    all_goals
      show zA d _ 0 [(0, .int (nI _)), (1, .int (nI _))] [] σ Q
      repeat refine zA_s0 rfl ?_
      first
      | exact zA_ret rfl (ht (by decide))
      | exact zA_ret rfl (hf (by decide))
set_option maxHeartbeats 4000000 in
set_option maxRecDepth 100000 in
theorem pr_as {d : Nat} {σ : zSo} (x y : Int32) (hR : R σ) : zPair (d + 20) 88 177 [.int x, .int y] σ := by
  obtain ⟨-, -, -, hS, ⟨p, ⟨hW, hC, hM, -, -⟩, -⟩, -⟩ := id hR
  have ww6 := hW.2.2.2.2.1
  have hk : zK σ (zup σ 70 0 0) := zK.rf.up rfl
  have hM' : PM (zup σ 70 0 0 74) p := hM
  have hmr : mR 74 := Or.inl rfl
  have bad : ¬ ((0 ≤ x.toInt ∧ x.toInt < pw p) ∧ (0 ≤ y.toInt ∧ y.toInt ≤ 5)) → zC (d + 20) 177 [.ref 70, .int x, .int y] σ (fun r2 σ2 => r2 = some (.int (-1000001)) ∧ R σ2 ∧ ∀ k, 1000 ≤ k → σ2 k = σ k) := by
    intro hn
    show zA (d + 20) _ 0 [(0, .ref 70), (1, .int x), (2, .int y)] [] σ _
    repeat refine zA_step rfl rfl ?_
    refine zA_call rfl rfl (mo_isWitness hM' ww6 (fun w hw e => ?_) (fun h => ?_))
    rotate_left
    · repeat refine zA_step rfl rfl ?_
      exact zA_ret rfl ⟨rfl, hR.kp hk⟩
    subst e
    repeat refine zA_step rfl rfl ?_
    refine zA_call rfl rfl (mo_inI 0 5 (by decide) (by decide) (fun z1 z2 => ?_) (fun z => ?_))
    · rw [nu_I (by omega)] at hn
      exact absurd ⟨⟨by omega, by omega⟩, ⟨z1, z2⟩⟩ hn
    · repeat refine zA_step rfl rfl ?_
      exact zA_ret rfl ⟨rfl, hR.kp hk⟩
  show zA (d + 20) _ 0 [(0, .ref 0), (1, .int x), (2, .int y)] [] σ _
  repeat refine zA_step rfl rfl ?_
  refine zA_call rfl rfl (cl_isWitness hC ww6 (fun w hw e => ?_) (fun h => ?_))
  rotate_left
  · repeat refine zA_step rfl rfl ?_
    exact zA_ret rfl ⟨_, rfl, bad (fun z => h z.1)⟩
  subst e
  repeat refine zA_step rfl rfl ?_
  refine zA_c (fun c1 => ?_) (fun c1 => ?_)
  all_goals simp only [nu_lt, Int32.reduceToInt] at c1
  · repeat refine zA_step rfl rfl ?_
    exact zA_ret rfl ⟨_, rfl, bad (fun z => by omega)⟩
  repeat refine zA_step rfl rfl ?_
  refine zA_c (fun c2 => ?_) (fun c2 => ?_)
  all_goals simp only [nu_lt, Int32.reduceToInt] at c2
  rotate_left
  · repeat refine zA_step rfl rfl ?_
    exact zA_ret rfl ⟨_, rfl, bad (fun z => by omega)⟩
  obtain ⟨o, ho, e⟩ := nu_of (n := 6) (x := y) (by omega) (by omega)
  subst e
  obtain ⟨hk1, -⟩ := hW.2.2.2.2.2.2.1 w hw
  have tomod : ∀ σ1 (Q : Option Value → zSo → Prop), σ1 74 = σ 74 → zA (d + 20) 177 43 [(0, .ref 70), (1, .int (nI w)), (2, .int (nI o))] [.int (nI o), .int (nI (pk p w))] (zup (zup σ1 70 0 0) 70 1 0) Q → zC (d + 20) 177 [.ref 70, .int (nI w), .int (nI o)] σ1 Q := by
    intro σ1 Q e1 K
    have hM1 : PM (zup σ1 70 0 0 74) p := by
      show PM (σ1 74) p
      rw [e1]; exact hM
    show zA (d + 20) _ 0 [(0, .ref 70), (1, .int (nI w)), (2, .int (nI o))] [] σ1 _
    repeat refine zA_step rfl rfl ?_
    refine zA_call rfl rfl (mo_isWitness hM1 ww6 (fun s' hs' e => ?_) (fun h => nu_abs2 hw (by omega) h))
    repeat refine zA_step rfl rfl ?_
    refine zA_call rfl rfl (mo_inI 0 5 (by decide) (by decide) (fun z1 z2 => ?_) (fun z => absurd ⟨by omega, by omega⟩ z))
    repeat refine zA_step rfl rfl ?_
    refine zA_call rfl rfl (mo_of hmr (by omega) (k := 0) (by omega) (hM1.2.2.2.2.2.1 w hw).1 ?_)
    repeat refine zA_step rfl rfl ?_
    exact K
  repeat refine zA_step rfl rfl ?_
  refine zA_ld (j := w) rfl rfl (by omega) (by decide) (hC.2.2.2.2.2.1 w hw).1 ?_
  repeat refine zA_step rfl rfl ?_
  refine zA_call rfl rfl (cl_isOf hS hk1 ho (fun h => ?_) (fun h => ?_))
  · repeat refine zA_step rfl rfl ?_
    refine zA_call rfl rfl (cl_fine ?_)
    repeat refine zA_step rfl rfl ?_
    refine zA_ret rfl ⟨_, rfl, tomod _ _ rfl ?_⟩
    refine zA_call rfl rfl (mo_isOf hk1 ho (fun h => ?_) (fun h2 => by rw [h] at h2; cases h2))
    repeat refine zA_step rfl rfl ?_
    exact zA_ret rfl ⟨rfl, hR.st (((zKg.rf.up rfl).up rfl).up rfl) rfl⟩
  · repeat refine zA_step rfl rfl ?_
    refine zA_call rfl rfl (cl_finding ?_)
    refine zA_ret rfl ⟨_, rfl, tomod _ _ rfl ?_⟩
    refine zA_call rfl rfl (mo_isOf hk1 ho (fun h2 => by rw [h] at h2; cases h2) (fun h => ?_))
    repeat refine zA_step rfl rfl ?_
    refine zA_call rfl rfl (mo_finding ?_)
    exact zA_ret rfl ⟨rfl, hR.st ((((zKg.rf.up rfl).up rfl).up rfl).up rfl) rfl⟩
