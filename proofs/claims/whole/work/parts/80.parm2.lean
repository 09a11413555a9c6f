/-! the text of a parish: the next token -/
set_option maxHeartbeats 4000000 in
set_option maxRecDepth 100000 in
theorem mo_next_lp {d n j : Nat} {b : Nat → Nat} {σ : zSo} {Q : Option Value → zSo → Prop} {f a : Int32} (hT : TMm σ b n) (hQ : ∀ c t v, TK b n j c t v → Q none (mk σ c (nI j) t v f a)) (h0 : isd b n j = true) :
    ∀ u m, 1 ≤ m → j + m + u = n → (∀ k, k < m → isd b n (j + k) = true) → ∀ v : Nat, v = (if m = 1 then b j - 48 else 10 * (b j - 48) + (b (j + 1) - 48)) → zA (d + 1) 116 165 [(0, .ref 70)] [] (mk σ (nI (j + m)) (nI j) 3 (nI v) f a) Q := by
  obtain ⟨t1, t2, t3⟩ := hT
  have g0 := isd_t.mp h0
  -- the end: what has been read
  have out : ∀ m, 1 ≤ m → j + m ≤ n → (∀ k, k < m → isd b n (j + k) = true) → isd b n (j + m) = false → ∀ v : Nat, v = (if m = 1 then b j - 48 else 10 * (b j - 48) + (b (j + 1) - 48)) → zA (d + 1) 116 255 [(0, .ref 70)] [] (mk σ (nI (j + m)) (nI j) 3 (nI v) f a) Q := by
    intro m h1 hm hd hend v hv
    repeat refine zA_step rfl rfl ?_
    simp only [mk_c, mk_s, mk_t, mk_v, mk_f, mk_a, mk_n, mk_l, mk_tp, mk_zc, mk_zs, mk_zt, mk_zv, mk_zf, mk_za]
    have e1 : (nI (j + m) - nI j).toInt = (m : Int) := by
      rw [nu_sub (by rw [nu_I (by omega), nu_I (by omega)]; omega) (by rw [nu_I (by omega), nu_I (by omega)]; omega), nu_I (by omega), nu_I (by omega)]
      omega
    by_cases c : m ≤ 2
    · refine zA_t (by rw [nu_le, e1]; simp only [Int32.reduceToInt]; omega) ?_
      repeat refine zA_step rfl rfl ?_
      simp only [mk_c, mk_s, mk_t, mk_v, mk_f, mk_a, mk_n, mk_l, mk_tp, mk_zc, mk_zs, mk_zt, mk_zv, mk_zf, mk_za]
      refine zA_ret rfl (hQ _ _ _ ?_)
      rcases (show m = 1 ∨ m = 2 by omega) with rfl | rfl
      · rw [if_pos rfl] at hv
        subst hv
        exact Or.inr (Or.inr (Or.inr (Or.inl ⟨h0, hend, rfl, rfl, rfl⟩)))
      · rw [if_neg (by omega)] at hv
        subst hv
        exact Or.inr (Or.inr (Or.inr (Or.inr (Or.inl ⟨h0, hd 1 (by omega), hend, rfl, rfl, rfl⟩))))
    · refine zA_f (by rw [nu_le, e1]; simp only [Int32.reduceToInt]; omega) ?_
      repeat refine zA_step rfl rfl ?_
      simp only [mk_c, mk_s, mk_t, mk_v, mk_f, mk_a, mk_n, mk_l, mk_tp, mk_zc, mk_zs, mk_zt, mk_zv, mk_zf, mk_za]
      refine zA_ret rfl (hQ _ _ _ ?_)
      exact Or.inr (Or.inr (Or.inr (Or.inr (Or.inr (Or.inl ⟨h0, hd 1 (by omega), hd 2 (by omega), rfl⟩)))))
  intro u
  induction u with
  | zero =>
    intro m h1 hm hd v hv
    refine zA_s0 rfl ?_
    repeat refine zA_step rfl rfl ?_
    simp only [mk_c, mk_s, mk_t, mk_v, mk_f, mk_a, mk_n, mk_l, mk_tp, mk_zc, mk_zs, mk_zt, mk_zv, mk_zf, mk_za]
    simp only [t2]
    refine zA_t (by simp (disch := omega) only [nu_lt, nu_le, nu_eq, nu_cmp_lt, nu_cmp_gt, nu_cmp_ge, nu_cmp_le, nu_wide, Int32.toInt_add, Int32.toInt_sub, Int32.toInt_mul, nu_I, Nat.reducePow, nu_bm, Int32.reduceToInt, Int64.reduceToInt]; omega) ?_
    exact out m h1 (by omega) hd (isd_f.mpr (fun z => by omega)) v hv
  | succ u ih =>
    intro m h1 hm hd v hv
    obtain ⟨q1, q2⟩ := t3 (j + m) (by omega)
    have hv1 : v < 1000 := by
      rw [hv]
      have g1 : m ≠ 1 → 48 ≤ b (j + 1) ∧ b (j + 1) ≤ 57 := fun h => by
        have := isd_t.mp (hd 1 (by omega))
        omega
      split <;> omega
    refine zA_s0 rfl ?_
    repeat refine zA_step rfl rfl ?_
    simp only [mk_c, mk_s, mk_t, mk_v, mk_f, mk_a, mk_n, mk_l, mk_tp, mk_zc, mk_zs, mk_zt, mk_zv, mk_zf, mk_za]
    simp only [t2]
    refine zA_f (by simp (disch := omega) only [nu_lt, nu_le, nu_eq, nu_cmp_lt, nu_cmp_gt, nu_cmp_ge, nu_cmp_le, nu_wide, Int32.toInt_add, Int32.toInt_sub, Int32.toInt_mul, nu_I, Nat.reducePow, nu_bm, Int32.reduceToInt, Int64.reduceToInt]; omega) ?_
    repeat refine zA_step rfl rfl ?_
    simp only [mk_c, mk_s, mk_t, mk_v, mk_f, mk_a, mk_n, mk_l, mk_tp, mk_zc, mk_zs, mk_zt, mk_zv, mk_zf, mk_za]
    refine zA_ld (j := j + m) rfl rfl (by omega) (by decide) q1 ?_
    repeat refine zA_step rfl rfl ?_
    refine zA_call rfl rfl (mo_inI 48 57 (by decide) (by decide) (fun z1 z2 => ?_) (fun z => ?_))
    rotate_left
    · refine zA_s0 rfl ?_
      refine out m h1 (by omega) hd (isd_f.mpr (fun z' => ?_)) v hv
      rw [nu_I (by omega)] at z
      omega
    rw [nu_I (by omega)] at z1 z2
    have hdm : isd b n (j + m) = true := isd_t.mpr (by omega)
    have hd' : ∀ k, k < m + 1 → isd b n (j + k) = true := fun k hk => by
      by_cases e : k = m
      · rw [e]; exact hdm
      · exact hd k (by omega)
    repeat refine zA_step rfl rfl ?_
    simp only [mk_c, mk_s, mk_t, mk_v, mk_f, mk_a, mk_n, mk_l, mk_tp, mk_zc, mk_zs, mk_zt, mk_zv, mk_zf, mk_za]
    have e1 : (nI (j + m) - nI j).toInt = (m : Int) := by
      rw [nu_sub (by rw [nu_I (by omega), nu_I (by omega)]; omega) (by rw [nu_I (by omega), nu_I (by omega)]; omega), nu_I (by omega), nu_I (by omega)]
      omega
    by_cases c : m < 2
    · refine zA_f (by rw [nu_le, e1]; simp only [Int32.reduceToInt]; omega) ?_
      repeat refine zA_step rfl rfl ?_
      simp only [mk_c, mk_s, mk_t, mk_v, mk_f, mk_a, mk_n, mk_l, mk_tp, mk_zc, mk_zs, mk_zt, mk_zv, mk_zf, mk_za]
      refine zA_ld (j := j + m) rfl rfl (by omega) (by decide) q1 ?_
      repeat refine zA_step rfl rfl ?_
      simp only [mk_c, mk_s, mk_t, mk_v, mk_f, mk_a, mk_n, mk_l, mk_tp, mk_zc, mk_zs, mk_zt, mk_zv, mk_zf, mk_za]
      have hm1 : m = 1 := by omega
      subst hm1
      rw [if_pos rfl] at hv
      have ev : 10 * nI v + nI (b (j + 1)) - 48 = nI (10 * (b j - 48) + (b (j + 1) - 48)) := by rw [hv]; exact (by rw [nu_eq]; simp (disch := omega) only [Int32.toInt_add, Int32.toInt_sub, Int32.toInt_mul, nu_I, Nat.reducePow, nu_bm, Int32.reduceToInt, Int64.reduceToInt]; omega)
      rw [ev, nI_1, show j + 1 + 1 = j + (1 + 1) by omega]
      exact ih (1 + 1) (by omega) (by omega) hd' _ (by rw [if_neg (by omega)])
    · refine zA_t (by rw [nu_le, e1]; simp only [Int32.reduceToInt]; omega) ?_
      repeat refine zA_step rfl rfl ?_
      simp only [mk_c, mk_s, mk_t, mk_v, mk_f, mk_a, mk_n, mk_l, mk_tp, mk_zc, mk_zs, mk_zt, mk_zv, mk_zf, mk_za]
      rw [nI_1, show j + m + 1 = j + (m + 1) by omega]
      exact ih (m + 1) (by omega) (by omega) hd' v (by rw [hv, if_neg (by omega), if_neg (by omega)])
set_option maxHeartbeats 4000000 in
set_option maxRecDepth 100000 in
theorem mo_nextToken {d n j : Nat} {b : Nat → Nat} {σ : zSo} {Q : Option Value → zSo → Prop} {s t v f a : Int32} (hT : TMm σ b n) (hj : j ≤ n) (hQ : ∀ c t v, TK b n j c t v → Q none (mk σ c (nI j) t v f a)) : zC (d + 1) 116 [.ref 70] (mk σ (nI j) s t v f a) Q := by
  obtain ⟨t1, t2, t3⟩ := id hT
  show zA (d + 1) _ 0 [(0, .ref 70)] [] _ Q
  repeat refine zA_step rfl rfl ?_
  simp only [mk_c, mk_s, mk_t, mk_v, mk_f, mk_a, mk_n, mk_l, mk_tp, mk_zc, mk_zs, mk_zt, mk_zv, mk_zf, mk_za]
  simp only [t2]
  by_cases hn : j = n
  · subst hn
    refine zA_t (Int32.le_refl _) ?_
    repeat refine zA_step rfl rfl ?_
    simp only [mk_c, mk_s, mk_t, mk_v, mk_f, mk_a, mk_n, mk_l, mk_tp, mk_zc, mk_zs, mk_zt, mk_zv, mk_zf, mk_za]
    simp only [t2]
    refine zA_t trivial ?_
    repeat refine zA_step rfl rfl ?_
    simp only [mk_c, mk_s, mk_t, mk_v, mk_f, mk_a, mk_n, mk_l, mk_tp, mk_zc, mk_zs, mk_zt, mk_zv, mk_zf, mk_za]
    simp only [t2]
    refine zA_t (Int32.le_refl _) ?_
    repeat refine zA_step rfl rfl ?_
    simp only [mk_c, mk_s, mk_t, mk_v, mk_f, mk_a, mk_n, mk_l, mk_tp, mk_zc, mk_zs, mk_zt, mk_zv, mk_zf, mk_za]
    refine zA_f (by decide) ?_
    exact zA_ret rfl (hQ _ _ _ (Or.inl ⟨rfl, rfl⟩))
  obtain ⟨q1, q2⟩ := t3 j (by omega)
  have done : ∀ (x : Int32) (vv : Nat), vv < 256 → ¬ x = 3 → TK b n j (nI (j + 1)) x (nI vv) → zA (d + 1) 116 118 [(0, .ref 70)] [.int x, .ref 70] (mk σ (nI j) (nI j) t (nI vv) f a) Q := by
    intro x vv hvv hx hk
    repeat refine zA_step rfl rfl ?_
    simp only [mk_c, mk_s, mk_t, mk_v, mk_f, mk_a, mk_n, mk_l, mk_tp, mk_zc, mk_zs, mk_zt, mk_zv, mk_zf, mk_za]
    simp only [t2]
    refine zA_f (by simp (disch := omega) only [nu_lt, nu_le, nu_eq, nu_cmp_lt, nu_cmp_gt, nu_cmp_ge, nu_cmp_le, nu_wide, Int32.toInt_add, Int32.toInt_sub, Int32.toInt_mul, nu_I, Nat.reducePow, nu_bm, Int32.reduceToInt, Int64.reduceToInt]; omega) ?_
    repeat refine zA_step rfl rfl ?_
    simp only [mk_c, mk_s, mk_t, mk_v, mk_f, mk_a, mk_n, mk_l, mk_tp, mk_zc, mk_zs, mk_zt, mk_zv, mk_zf, mk_za]
    refine zA_f hx ?_
    rw [nI_1]
    exact zA_ret rfl (hQ _ _ _ hk)
  refine zA_f (by simp (disch := omega) only [nu_lt, nu_le, nu_eq, nu_cmp_lt, nu_cmp_gt, nu_cmp_ge, nu_cmp_le, nu_wide, Int32.toInt_add, Int32.toInt_sub, Int32.toInt_mul, nu_I, Nat.reducePow, nu_bm, Int32.reduceToInt, Int64.reduceToInt]; omega) ?_
  repeat refine zA_step rfl rfl ?_
  simp only [mk_c, mk_s, mk_t, mk_v, mk_f, mk_a, mk_n, mk_l, mk_tp, mk_zc, mk_zs, mk_zt, mk_zv, mk_zf, mk_za]
  refine zA_ld (j := j) rfl rfl (by omega) (by decide) q1 ?_
  repeat refine zA_step rfl rfl ?_
  simp only [mk_c, mk_s, mk_t, mk_v, mk_f, mk_a, mk_n, mk_l, mk_tp, mk_zc, mk_zs, mk_zt, mk_zv, mk_zf, mk_za]
  simp only [t2]
  refine zA_f (by simp (disch := omega) only [nu_lt, nu_le, nu_eq, nu_cmp_lt, nu_cmp_gt, nu_cmp_ge, nu_cmp_le, nu_wide, Int32.toInt_add, Int32.toInt_sub, Int32.toInt_mul, nu_I, Nat.reducePow, nu_bm, Int32.reduceToInt, Int64.reduceToInt]; omega) ?_
  repeat refine zA_step rfl rfl ?_
  simp only [mk_c, mk_s, mk_t, mk_v, mk_f, mk_a, mk_n, mk_l, mk_tp, mk_zc, mk_zs, mk_zt, mk_zv, mk_zf, mk_za]
  refine zA_call rfl rfl (mo_inI 97 122 (by decide) (by decide) (fun z1 z2 => ?_) (fun z => ?_))
  · rw [nu_I (by omega)] at z1 z2
    refine zA_s0 rfl ?_
    refine zA_s0 rfl ?_
    refine zA_s0 rfl ?_
    exact done 2 (b j) q2 (by decide) (Or.inr (Or.inl ⟨by omega, by omega, rfl, rfl, rfl⟩))
  rw [nu_I (by omega)] at z
  repeat refine zA_step rfl rfl ?_
  simp only [mk_c, mk_s, mk_t, mk_v, mk_f, mk_a, mk_n, mk_l, mk_tp, mk_zc, mk_zs, mk_zt, mk_zv, mk_zf, mk_za]
  refine zA_call rfl rfl (mo_inI 48 57 (by decide) (by decide) (fun z1 z2 => ?_) (fun z9 => ?_))
  · rw [nu_I (by omega)] at z1 z2
    have h0 : isd b n j = true := isd_t.mpr (by omega)
    repeat refine zA_step rfl rfl ?_
    simp only [mk_c, mk_s, mk_t, mk_v, mk_f, mk_a, mk_n, mk_l, mk_tp, mk_zc, mk_zs, mk_zt, mk_zv, mk_zf, mk_za]
    simp only [t2]
    refine zA_f (by simp (disch := omega) only [nu_lt, nu_le, nu_eq, nu_cmp_lt, nu_cmp_gt, nu_cmp_ge, nu_cmp_le, nu_wide, Int32.toInt_add, Int32.toInt_sub, Int32.toInt_mul, nu_I, Nat.reducePow, nu_bm, Int32.reduceToInt, Int64.reduceToInt]; omega) ?_
    repeat refine zA_step rfl rfl ?_
    simp only [mk_c, mk_s, mk_t, mk_v, mk_f, mk_a, mk_n, mk_l, mk_tp, mk_zc, mk_zs, mk_zt, mk_zv, mk_zf, mk_za]
    refine zA_t trivial ?_
    repeat refine zA_step rfl rfl ?_
    simp only [mk_c, mk_s, mk_t, mk_v, mk_f, mk_a, mk_n, mk_l, mk_tp, mk_zc, mk_zs, mk_zt, mk_zv, mk_zf, mk_za]
    rw [nI_1, show nI (b j) - 48 = nI (b j - 48) from (by rw [nu_eq]; simp (disch := omega) only [Int32.toInt_add, Int32.toInt_sub, Int32.toInt_mul, nu_I, Nat.reducePow, nu_bm, Int32.reduceToInt, Int64.reduceToInt]; omega)]
    exact mo_next_lp hT hQ h0 (n - (j + 1)) 1 (by omega) (by omega) (fun k hk => by rw [show k = 0 by omega]; exact h0) _ (by rw [if_pos rfl])
  rw [nu_I (by omega)] at z9
  have h0 : isd b n j = false := isd_f.mpr (by omega)
  repeat refine zA_step rfl rfl ?_
  simp only [mk_c, mk_s, mk_t, mk_v, mk_f, mk_a, mk_n, mk_l, mk_tp, mk_zc, mk_zs, mk_zt, mk_zv, mk_zf, mk_za]
  by_cases e1 : b j = 44
  · refine zA_t (by rw [e1]; rfl) ?_
    refine zA_s0 rfl ?_
    refine zA_s0 rfl ?_
    exact done 4 (b j) q2 (by decide) (Or.inr (Or.inr (Or.inl ⟨by omega, Or.inl e1, rfl, rfl, rfl⟩)))
  refine zA_f (by simp (disch := omega) only [nu_lt, nu_le, nu_eq, nu_cmp_lt, nu_cmp_gt, nu_cmp_ge, nu_cmp_le, nu_wide, Int32.toInt_add, Int32.toInt_sub, Int32.toInt_mul, nu_I, Nat.reducePow, nu_bm, Int32.reduceToInt, Int64.reduceToInt]; omega) ?_
  repeat refine zA_step rfl rfl ?_
  simp only [mk_c, mk_s, mk_t, mk_v, mk_f, mk_a, mk_n, mk_l, mk_tp, mk_zc, mk_zs, mk_zt, mk_zv, mk_zf, mk_za]
  by_cases e2 : b j = 59
  · refine zA_t (by rw [e2]; rfl) ?_
    refine zA_s0 rfl ?_
    refine zA_s0 rfl ?_
    exact done 4 (b j) q2 (by decide) (Or.inr (Or.inr (Or.inl ⟨by omega, Or.inr e2, rfl, rfl, rfl⟩)))
  refine zA_f (by simp (disch := omega) only [nu_lt, nu_le, nu_eq, nu_cmp_lt, nu_cmp_gt, nu_cmp_ge, nu_cmp_le, nu_wide, Int32.toInt_add, Int32.toInt_sub, Int32.toInt_mul, nu_I, Nat.reducePow, nu_bm, Int32.reduceToInt, Int64.reduceToInt]; omega) ?_
  refine zA_s0 rfl ?_
  exact done 0 (b j) q2 (by decide) (Or.inr (Or.inr (Or.inr (Or.inr (Or.inr (Or.inr ⟨by omega, by omega, by omega, h0, rfl⟩))))))
