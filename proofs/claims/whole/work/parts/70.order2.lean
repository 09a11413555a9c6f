/-! order -/
theorem zK_os4 {σ σ' σ'' : zSo} (h : zK σ σ') (hf : zFr [67] σ' σ'') : zK σ σ'' := h.fr hf (by
  intro a ha j
  rw [List.mem_singleton.mp ha]; rfl)
theorem zK_ord {σ σ' σ'' : zSo} (h : zK σ σ') (hf : zFr [80] σ' σ'') : zK σ σ'' := h.fr hf (by
  intro a ha j
  rw [List.mem_singleton.mp ha]; rfl)
theorem oT_le {p : paT} {Y : Nat} (hW : paW p Y) (s : Nat) : oT p s ≤ 279936 := by
  have w6 := hW.2.2.2.2.1
  have : oT p s ≤ pw p * 46656 := sm_le (fun v _ => by
    split
    · exact wy_le w6 _ _ _
    · omega)
  omega
theorem foN_0 {p : paT} {s : Nat} (h : oT p s = 0) (w6 : pw p ≤ 6) (k : Nat) : foN p s (k + 1) 0 none = none := by
  rw [foN, ff_none (fun u _ hu => ?_)]
  unfold pP
  rw [Nat.zero_or]
  cases hb : (Wm p s).testBit u with
  | false => simp
  | true =>
    have hu := (Wm_say hb).1
    have := sm_zr h hu
    rw [if_pos hb] at this
    rw [this]; simp
set_option maxHeartbeats 4000000 in
set_option maxRecDepth 100000 in
theorem pr_order {d : Nat} {σ : zSo} (x y : Int32) (hR : R σ) : zPair (d + 20) 79 167 [.int x, .int y] σ := by
  obtain ⟨-, -, -, -, ⟨p, ⟨hW, hC, hM, -, -⟩, -⟩, -⟩ := id hR
  have ws6 := hW.2.2.2.1
  have w6 := hW.2.2.2.2.1
  have hk : zK σ (zup σ 70 0 0) := zK.rf.up rfl
  have hM' : PM (zup σ 70 0 0 74) p := hM
  have bad : ¬ ((0 ≤ x.toInt ∧ x.toInt < ps p) ∧ (-1 ≤ y.toInt ∧ y.toInt ≤ 5)) → zC (d + 20) 167 [.ref 70, .int x, .int y] σ (fun r2 σ2 => r2 = some (.int (-1000001)) ∧ R σ2 ∧ ∀ k, 1000 ≤ k → σ2 k = σ k) := by
    intro hn
    show zA (d + 20) _ 0 [(0, .ref 70), (1, .int x), (2, .int y)] [] σ _
    repeat refine zA_step rfl rfl ?_
    refine zA_call rfl rfl (mo_isStone hM' ws6 (fun s hs e => ?_) (fun h => ?_))
    rotate_left
    · repeat refine zA_step rfl rfl ?_
      exact zA_ret rfl ⟨rfl, hR.kp hk⟩
    subst e
    repeat refine zA_step rfl rfl ?_
    refine zA_call rfl rfl (mo_inI (-1) 5 (by decide) (by decide) (fun z1 z2 => ?_) (fun z => ?_))
    · rw [nu_I (by omega)] at hn
      exact absurd ⟨⟨by omega, by omega⟩, ⟨z1, z2⟩⟩ hn
    · repeat refine zA_step rfl rfl ?_
      exact zA_ret rfl ⟨rfl, hR.kp hk⟩
  show zA (d + 20) _ 0 [(0, .ref 0), (1, .int x), (2, .int y)] [] σ _
  repeat refine zA_step rfl rfl ?_
  refine zA_call rfl rfl (cl_isStone hC ws6 (fun s hs e => ?_) (fun h => ?_))
  rotate_left
  · repeat refine zA_step rfl rfl ?_
    exact zA_ret rfl ⟨_, rfl, bad (fun z => h z.1)⟩
  subst e
  repeat refine zA_step rfl rfl ?_
  refine zA_c (fun c1 => ?_) (fun c1 => ?_)
  all_goals simp only [nu_lt, Int32.reduceToInt] at c1
  · repeat refine zA_step rfl rfl ?_
    exact zA_ret rfl ⟨_, rfl, bad (by omega)⟩
  repeat refine zA_step rfl rfl ?_
  refine zA_c (fun c2 => ?_) (fun c2 => ?_)
  all_goals simp only [nu_lt, Int32.reduceToInt] at c2
  rotate_left
  · repeat refine zA_step rfl rfl ?_
    exact zA_ret rfl ⟨_, rfl, bad (by omega)⟩
  repeat refine zA_step rfl rfl ?_
  refine zA_call rfl rfl (cl_gather hC hW (by omega) hs (fun σ2 hF hO => ?_))
  have hl6 := vL_len (s := s) hW
  repeat refine zA_step rfl rfl ?_
  refine zA_call rfl rfl (cl_countOrders hO hW hs (fun σ3 hF3 hw3 => ?_))
  have hO3 : OS σ3 (vL p s) := by
    unfold OS
    rw [hF3 64 (by decide), hF3 65 (by decide), hF3 66 (by decide)]
    exact hO
  have hk3 := zK_os4 (zK_os hF) hF3
  have hM3 : PM (zup σ3 70 0 0 74) p := by
    show PM (σ3 74) p
    rw [hF3 _ (by decide), hF _ (by decide)]; exact hM
  have hlen : (vL p s).length = pc6 (Wm p s) := by unfold Wm; rw [pc6_bn _ w6]; exact vK_len p s _
  have hWm := Wm_lt w6 s
  have pz : ∀ x, x < 64 → (pc6 x = 0 ↔ x = 0) := by decide +kernel
  have hoT := oT_le hW s
  have tomod : ∀ (r : Int32), (∀ (σ4 : zSo) (c : Nat), c = (if (vL p s).length = 0 then 1 else 0) → zFr [80] (zup σ3 70 0 0) σ4 → OD σ4 p s 0 → ∀ Q : Option Value → zSo → Prop, Q (some (.int r)) σ4 → zA (d + 20) 167 175 [(0, .ref 70), (1, .int (nI s)), (2, .int y), (3, .int (nI (Wm p s))), (4, .int (nI (c + oT p s))), (5, .int 6)] [] σ4 Q) → zC (d + 20) 167 [.ref 70, .int (nI s), .int y] σ3 (fun r2 σ2 => r2 = some (.int r) ∧ R σ2 ∧ ∀ k, 1000 ≤ k → σ2 k = σ k) := by
    intro r K
    show zA (d + 20) _ 0 [(0, .ref 70), (1, .int (nI s)), (2, .int y)] [] σ3 _
    repeat refine zA_step rfl rfl ?_
    refine zA_call rfl rfl (mo_isStone hM3 ws6 (fun s' hs' e => ?_) (fun h => nu_abs2 hs (by omega) h))
    repeat refine zA_step rfl rfl ?_
    refine zA_call rfl rfl (mo_inI (-1) 5 (by decide) (by decide) (fun z1 z2 => ?_) (fun z => absurd (And.intro (by omega) (by omega)) z))
    repeat refine zA_step rfl rfl ?_
    refine zA_call rfl rfl (mo_whoSwears (Or.inl rfl) hM3 hW (by omega) hs ?_)
    show zA _ _ _ _ [.int (nI (Wm p s))] _ _
    have go : ∀ c : Nat, c = (if (vL p s).length = 0 then 1 else 0) → zA (d + 20) 167 54 [(0, .ref 70), (1, .int (nI s)), (2, .int y), (3, .int (nI (Wm p s))), (4, .int (nI c)), (5, .int 63)] [] (zup σ3 70 0 0) (fun r2 σ2 => r2 = some (.int r) ∧ R σ2 ∧ ∀ k, 1000 ≤ k → σ2 k = σ k) := by
      intro c hc
      refine mo_orders (d := d + 14) (k := 0) hM3 hW (by omega) hs (fun σ4 hF4 hD4 => ?_) 63 (by omega) _ zFr.rf (fun M h1 h2 => by omega) 63 rfl
      repeat refine zA_step rfl rfl ?_
      refine mo_count (c := c) hW hD4 (by rw [hc]; split <;> omega) ?_
      exact K σ4 c hc hF4 hD4 _ ⟨rfl, hR.kp (zK_ord (hk3.up rfl) hF4)⟩
    repeat refine zA_step rfl rfl ?_
    by_cases e : Wm p s = 0
    · have : (vL p s).length = 0 := by rw [hlen]; exact (pz _ hWm).mpr e
      refine zA_t (by rw [e]; rfl) ?_
      repeat refine zA_step rfl rfl ?_
      exact go 1 (by rw [if_pos this])
    · have : ¬ (vL p s).length = 0 := fun z => e ((pz _ hWm).mp (by omega))
      refine zA_f (by simp (disch := omega) only [nu_lt, nu_le, nu_eq, nu_cmp_lt, nu_cmp_gt, nu_cmp_ge, nu_cmp_le, nu_wide, Int32.toInt_add, Int32.toInt_sub, Int32.toInt_mul, nu_I, Nat.reducePow, nu_bm, Int32.reduceToInt, Int64.reduceToInt]; omega) ?_
      repeat refine zA_step rfl rfl ?_
      exact go 0 (by rw [if_neg this])
  repeat refine zA_step rfl rfl ?_
  by_cases ey : y.toInt = -1
  · have ey' : y = -1 := by rw [nu_eq, ey]; rfl
    subst ey'
    repeat refine zA_step rfl rfl ?_
    refine zA_call rfl rfl (cl_orders hO3 hW hs hw3 ?_)
    repeat refine zA_step rfl rfl ?_
    refine zA_ret rfl ⟨_, rfl, tomod _ (fun σ4 c hc hF4 hD4 Q hQ => ?_)⟩
    have : c + oT p s = if (vL p s).length = 0 then 1 else oT p s := by
      rw [hc]
      by_cases e : (vL p s).length = 0
      · rw [if_pos e, if_pos e]
        have : oT p s = 0 := by rw [oT_eq hW hs, e]; rfl
        omega
      · rw [if_neg e, if_neg e]; omega
    rw [this]
    repeat refine zA_step rfl rfl ?_
    exact zA_ret rfl hQ
  · obtain ⟨k, hk6, e⟩ := nu_of (n := 6) (x := y) (by omega) (by omega)
    subst e
    refine zA_f (by rw [nu_eq]; exact ey) ?_
    repeat refine zA_step rfl rfl ?_
    refine zA_call rfl rfl (cl_inFirst hO3 hW hs hw3 hk6 ?_)
    repeat refine zA_step rfl rfl ?_
    refine zA_ret rfl ⟨_, rfl, tomod _ (fun σ4 c hc hF4 hD4 Q hQ => ?_)⟩
    have hM4 : PM (σ4 74) p := by rw [hF4 _ (by decide)]; exact hM3
    have hc1 : c ≤ 1 := by rw [hc]; split <;> omega
    by_cases hkl : k < (vL p s).length
    · rw [if_pos hkl] at hQ
      have hc0 : c = 0 := by rw [hc, if_neg (by omega)]
      repeat refine zA_step rfl rfl ?_
      refine zA_f (by simp (disch := omega) only [nu_lt, nu_le, nu_eq, nu_cmp_lt, nu_cmp_gt, nu_cmp_ge, nu_cmp_le, nu_wide, Int32.toInt_add, Int32.toInt_sub, Int32.toInt_mul, nu_I, Nat.reducePow, nu_bm, Int32.reduceToInt, Int64.reduceToInt]; omega) ?_
      repeat refine zA_step rfl rfl ?_
      by_cases e0 : oT p s = 0
      · rw [foN_0 e0 w6] at hQ
        refine zA_t (by rw [hc0, e0]; rfl) ?_
        repeat refine zA_step rfl rfl ?_
        refine zA_t (by simp (disch := omega) only [nu_lt, nu_le, nu_eq, nu_cmp_lt, nu_cmp_gt, nu_cmp_ge, nu_cmp_le, nu_wide, Int32.toInt_add, Int32.toInt_sub, Int32.toInt_mul, nu_I, Nat.reducePow, nu_bm, Int32.reduceToInt, Int64.reduceToInt]; omega) ?_
        repeat refine zA_step rfl rfl ?_
        exact zA_ret rfl hQ
      · refine zA_f (by simp (disch := omega) only [nu_lt, nu_le, nu_eq, nu_cmp_lt, nu_cmp_gt, nu_cmp_ge, nu_cmp_le, nu_wide, Int32.toInt_add, Int32.toInt_sub, Int32.toInt_mul, nu_I, Nat.reducePow, nu_bm, Int32.reduceToInt, Int64.reduceToInt]; omega) ?_
        repeat refine zA_step rfl rfl ?_
        refine zA_call rfl rfl (mo_bits hWm ?_)
        repeat refine zA_step rfl rfl ?_
        refine zA_t (by simp (disch := omega) only [nu_lt, nu_le, nu_eq, nu_cmp_lt, nu_cmp_gt, nu_cmp_ge, nu_cmp_le, nu_wide, Int32.toInt_add, Int32.toInt_sub, Int32.toInt_mul, nu_I, Nat.reducePow, nu_bm, Int32.reduceToInt, Int64.reduceToInt]; omega) ?_
        repeat refine zA_step rfl rfl ?_
        refine zA_dr rfl rfl rfl ?_
        exact mo_first (d := d + 14) hM4 hW (by omega) hs hD4 (by omega) (by omega) hQ
    · rw [if_neg hkl] at hQ
      have out : zA (d + 20) 167 192 [(0, .ref 70), (1, .int (nI s)), (2, .int (nI k)), (3, .int (nI (Wm p s))), (4, .int (nI (c + oT p s))), (5, .int 6)] [] σ4 Q := by
        repeat refine zA_step rfl rfl ?_
        refine zA_t (by simp (disch := omega) only [nu_lt, nu_le, nu_eq, nu_cmp_lt, nu_cmp_gt, nu_cmp_ge, nu_cmp_le, nu_wide, Int32.toInt_add, Int32.toInt_sub, Int32.toInt_mul, nu_I, Nat.reducePow, nu_bm, Int32.reduceToInt, Int64.reduceToInt]; omega) ?_
        repeat refine zA_step rfl rfl ?_
        exact zA_ret rfl hQ
      have hpc : pc6 (Wm p s) ≤ 6 := cn_le _ _
      refine zA_s0 rfl ?_
      refine zA_s0 rfl ?_
      refine zA_f (by simp (disch := omega) only [nu_lt, nu_le, nu_eq, nu_cmp_lt, nu_cmp_gt, nu_cmp_ge, nu_cmp_le, nu_wide, Int32.toInt_add, Int32.toInt_sub, Int32.toInt_mul, nu_I, Nat.reducePow, nu_bm, Int32.reduceToInt, Int64.reduceToInt]; omega) ?_
      refine zA_s0 rfl ?_
      refine zA_s0 rfl ?_
      refine zA_c (fun _ => out) (fun _ => ?_)
      refine zA_s0 rfl ?_
      refine zA_s0 rfl ?_
      refine zA_call rfl rfl (mo_bits hWm ?_)
      refine zA_s0 rfl ?_
      refine zA_f (by simp (disch := omega) only [nu_lt, nu_le, nu_eq, nu_cmp_lt, nu_cmp_gt, nu_cmp_ge, nu_cmp_le, nu_wide, Int32.toInt_add, Int32.toInt_sub, Int32.toInt_mul, nu_I, Nat.reducePow, nu_bm, Int32.reduceToInt, Int64.reduceToInt]; omega) ?_
      exact out
