/-! till -/
abbrev tC : List Nat := [29, 29 + 1, 29 + 2, 29 + 3, 29 + 4, 29 + 5, 29 + 6, 29 + 7, 29 + 8]
theorem zK_tC {σ σ' σ'' : zSo} (h : zK σ σ') (hf : zFr tC σ' σ'') : zK σ σ'' := h.fr hf (by
  intro a ha j
  simp only [List.mem_cons, List.not_mem_nil, or_false] at ha
  rcases ha with rfl | rfl | rfl | rfl | rfl | rfl | rfl | rfl | rfl <;> rfl)
theorem zK_then {σ σ' σ'' : zSo} (h : zK σ σ') (hf : zFr [76] σ' σ'') : zK σ σ'' := h.fr hf (by
  intro a ha j
  rw [List.mem_singleton.mp ha]; rfl)
theorem PC.yr {σ σ' : zSo} {P : Nat} {p : paT} {m n : Nat} (h : PC σ P (agP p m)) (hk : ∀ k, 1 ≤ k → k ≤ 8 → σ' (P + k) = σ (P + k)) (ho : ∀ j, j ≠ 3 → σ' P j = σ P j) (hy : σ' P 3 = nI (py p + n)) : PC σ' P (agP p n) := by
  obtain ⟨⟨a0, a1⟩, a2, a3, a4, a5, a6, a7⟩ := h
  unfold PC
  simp only [hk 1 (by omega) (by omega), hk 2 (by omega) (by omega), hk 3 (by omega) (by omega), hk 4 (by omega) (by omega), hk 5 (by omega) (by omega), hk 6 (by omega) (by omega), hk 7 (by omega) (by omega), hk 8 (by omega) (by omega)]
  refine ⟨⟨?_, ?_⟩, ?_, ?_, hy, a5, fun w hw => ?_, a7⟩
  · rw [ho _ (by decide)]; exact a0
  · rw [ho _ (by decide)]; exact a1
  · rw [ho _ (by decide)]; exact a2
  · rw [ho _ (by decide)]; exact a3
  · obtain ⟨c1, c2, c3, c4⟩ := a6 w hw
    refine ⟨c1, ?_, c3, c4⟩
    show _ = nI (pa p w + n - (py p + n))
    have c2' : σ (P + 3) w = nI (pa p w + m - (py p + m)) := c2
    rw [Nat.add_sub_add_right] at c2' ⊢
    exact c2'
theorem agP_0 (p : paT) : agP p 0 = p := rfl
theorem agP_s (p : paT) (m n : Nat) : agP (agP p m) n = agP p (m + n) := by
  unfold agP pl pd py ps pw pa
  simp only [Nat.add_assoc]
theorem PC.zy {σ : zSo} {p : paT} {m n : Nat} {x : Int32} (h : PC σ 29 (agP p m)) (hx : x = nI (py p + n)) : PC (zup σ 29 3 x) 29 (agP p n) := by
  refine h.yr (fun k h1 h2 => zup_o _ _ _ (by omega)) (fun j hj => ?_) ?_
  · rw [zup_k]; simp only [upd]; rw [if_neg hj]
  · rw [zup_k, hx]; simp [upd]
/-- the first that has P, of n from k on -/
def ff (P : Nat → Bool) : Nat → Nat → Option Nat
  | 0, _ => none
  | n + 1, k => if P k then some k else ff P n (k + 1)
def cS (p : paT) (s : Nat) : Nat := pc6 (bn (swb p s) (pw p))
theorem cS_le {p : paT} {s : Nat} : cS p s ≤ 6 := cn_le _ _
set_option maxHeartbeats 4000000 in
set_option maxRecDepth 100000 in
theorem pr_till {d : Nat} {σ : zSo} (x y : Int32) (hR : R σ) : zPair (d + 20) 76 160 [.int x, .int y] σ := by
  obtain ⟨-, -, -, -, ⟨p, ⟨hW, hC, hM, hT, -⟩, -⟩, -⟩ := id hR
  have ws6 := hW.2.2.2.1
  have w6 := hW.2.2.2.2.1
  have hpy := hW.2.2.1
  have hk : zK σ (zup σ 70 0 0) := zK.rf.up rfl
  have hM' : PM (zup σ 70 0 0 74) p := hM
  have bad : ¬ ((0 ≤ x.toInt ∧ x.toInt < ps p) ∧ (1 ≤ y.toInt ∧ y.toInt ≤ 6)) → zC (d + 20) 160 [.ref 70, .int x, .int y] σ (fun r2 σ2 => r2 = some (.int (-1000001)) ∧ R σ2 ∧ ∀ k, 1000 ≤ k → σ2 k = σ k) := by
    intro hn
    show zA (d + 20) _ 0 [(0, .ref 70), (1, .int x), (2, .int y)] [] σ _
    repeat refine zA_step rfl rfl ?_
    refine zA_call rfl rfl (mo_isStone hM' ws6 (fun s hs e => ?_) (fun h => ?_))
    rotate_left
    · repeat refine zA_step rfl rfl ?_
      exact zA_ret rfl ⟨rfl, hR.kp hk⟩
    subst e
    repeat refine zA_step rfl rfl ?_
    refine zA_call rfl rfl (mo_inI 1 6 (by decide) (by decide) (fun z1 z2 => ?_) (fun z => ?_))
    · rw [nu_I (by omega)] at hn
      exact absurd ⟨⟨by omega, by omega⟩, ⟨z1, z2⟩⟩ hn
    · repeat refine zA_step rfl rfl ?_
      exact zA_ret rfl ⟨rfl, hR.kp hk⟩
  show zA (d + 20) _ 0 [(0, .ref 0), (1, .int x), (2, .int y)] [] σ _
  repeat refine zA_step rfl rfl ?_
  refine zA_call rfl rfl (cl_isStone hC ws6 (fun s hs e => ?_) (fun h => ?_))
  rotate_left
  · repeat refine zA_step rfl rfl ?_
    exact zA_ret rfl ⟨_, rfl, bad (fun z => h z.1)⟩
  subst e
  repeat refine zA_step rfl rfl ?_
  refine zA_call rfl rfl (cl_isMany (fun p1 p2 => ?_) (fun h => ?_))
  rotate_left
  · repeat refine zA_step rfl rfl ?_
    exact zA_ret rfl ⟨_, rfl, bad (fun z => h z.2)⟩
  obtain ⟨n, hn, e⟩ := nu_of (n := 7) (x := y) (by omega) (by omega)
  subst e
  rw [nu_I (by omega)] at p1 p2
  repeat refine zA_step rfl rfl ?_
  refine zA_call rfl rfl (cl_become (Or.inl ⟨rfl, rfl⟩) hC hW (by rw [hT]; split <;> simp) (fun σ2 hF hC2 _ => ?_))
  repeat refine zA_step rfl rfl ?_
  let P : Nat → Bool := fun k => decide (cS (agP p k) s < n)
  have lpc : ∀ (Q : Option Value → zSo → Prop) (m k : Nat), k + m = 100 → ∀ (σ3 : zSo) (a : Nat), zFr tC σ σ3 → PC σ3 29 (agP p a) → ∀ i : Int32, i = nI k → (∀ σ4 : zSo, zFr tC σ σ4 → Q (some (.int (eO (ff P m k)))) σ4) → zA (d + 20) 76 31 [(0, .ref 0), (1, .int (nI s)), (2, .int (nI n)), (3, .int i)] [] σ3 Q := by
    intro Q m
    induction m with
    | zero =>
      intro k hk σ3 a hF3 hC3 i ei K
      subst ei
      have : k = 100 := by omega
      subst this
      refine zA_s0 rfl ?_
      repeat refine zA_step rfl rfl ?_
      exact zA_ret rfl (K σ3 hF3)
    | succ m ih =>
      intro k hk σ3 a hF3 hC3 i ei K
      subst ei
      refine zA_s0 rfl ?_
      repeat refine zA_step rfl rfl ?_
      refine zA_f (by simp (disch := omega) only [nu_lt, nu_le, nu_eq, nu_cmp_lt, nu_cmp_gt, nu_cmp_ge, nu_cmp_le, nu_wide, Int32.toInt_add, Int32.toInt_sub, Int32.toInt_mul, nu_I, Nat.reducePow, nu_bm, Int32.reduceToInt, Int64.reduceToInt]; omega) ?_
      repeat refine zA_step rfl rfl ?_
      have hC4 := hC3.zy (n := k) (x := σ3 20 3 + nI k) (by rw [hF3 20 (by decide), hC.2.2.2.1, nI_add])
      have hW4 : paW (agP p k) 2000 := (agP_W hW).mono (show py p + k ≤ 2000 by omega)
      refine zA_call rfl rfl (cl_swearersTo (Or.inr (Or.inl rfl)) hC4 hW4 (by omega) hs ?_)
      refine zA_call rfl rfl (cl_bitCount (bn_lt64 _ w6) ?_)
      show zA _ _ _ _ (.int (nI (cS (agP p k) s)) :: _) _ _
      have hc6 : cS (agP p k) s ≤ 6 := cS_le
      repeat refine zA_step rfl rfl ?_
      unfold ff at K
      by_cases h : cS (agP p k) s < n
      · refine zA_f (by simp (disch := omega) only [nu_lt, nu_le, nu_eq, nu_cmp_lt, nu_cmp_gt, nu_cmp_ge, nu_cmp_le, nu_wide, Int32.toInt_add, Int32.toInt_sub, Int32.toInt_mul, nu_I, Nat.reducePow, nu_bm, Int32.reduceToInt, Int64.reduceToInt]; omega) ?_
        repeat refine zA_step rfl rfl ?_
        rw [if_pos (show P k = true from decide_eq_true h)] at K
        exact zA_ret rfl (K _ (hF3.up (by simp)))
      · refine zA_t (by simp (disch := omega) only [nu_lt, nu_le, nu_eq, nu_cmp_lt, nu_cmp_gt, nu_cmp_ge, nu_cmp_le, nu_wide, Int32.toInt_add, Int32.toInt_sub, Int32.toInt_mul, nu_I, Nat.reducePow, nu_bm, Int32.reduceToInt, Int64.reduceToInt]; omega) ?_
        repeat refine zA_step rfl rfl ?_
        rw [if_neg (show ¬ P k = true from fun z => h (of_decide_eq_true z))] at K
        exact ih (k + 1) (by omega) _ k (hF3.up (by simp)) hC4 _ (nI_1 k) K
  refine lpc _ 100 0 (by omega) σ2 0 hF hC2 0 rfl (fun σ4 hF4 => ⟨_, rfl, ?_⟩)
  have hk4 := zK_tC zK.rf hF4
  have hM4 : PM (zup σ4 70 0 0 74) p := by
    show PM (σ4 74) p
    rw [hF4 _ (by decide)]; exact hM
  show zA (d + 20) _ 0 [(0, .ref 70), (1, .int (nI s)), (2, .int (nI n))] [] σ4 _
  repeat refine zA_step rfl rfl ?_
  refine zA_call rfl rfl (mo_isStone hM4 ws6 (fun s' hs' e => ?_) (fun h => nu_abs2 hs (by omega) h))
  repeat refine zA_step rfl rfl ?_
  refine zA_call rfl rfl (mo_inI 1 6 (by decide) (by decide) (fun z1 z2 => ?_) (fun z => absurd ⟨by rw [nu_I (by omega)]; omega, by rw [nu_I (by omega)]; omega⟩ z))
  repeat refine zA_step rfl rfl ?_
  refine zA_call rfl rfl (mo_layThen hM4 hW (fun σ5 hF5 hM5 => ?_))
  repeat refine zA_step rfl rfl ?_
  have lpm : ∀ (Q : Option Value → zSo → Prop) (m k : Nat), k + m = 100 → ∀ σ3 : zSo, zFr [76] σ5 σ3 → PM (σ3 76) (agP p k) → ∀ i : Int32, i = nI k → (∀ σ6 : zSo, zFr [76] σ5 σ6 → Q (some (.int (eO (ff P m k)))) σ6) → zA (d + 20) 160 34 [(0, .ref 70), (1, .int (nI s)), (2, .int (nI n)), (3, .int i)] [] σ3 Q := by
    intro Q m
    induction m with
    | zero =>
      intro k hk σ3 hF3 hM3 i ei K
      subst ei
      have : k = 100 := by omega
      subst this
      refine zA_s0 rfl ?_
      repeat refine zA_step rfl rfl ?_
      exact zA_ret rfl (K σ3 hF3)
    | succ m ih =>
      intro k hk σ3 hF3 hM3 i ei K
      subst ei
      refine zA_s0 rfl ?_
      repeat refine zA_step rfl rfl ?_
      refine zA_f (by simp (disch := omega) only [nu_lt, nu_le, nu_eq, nu_cmp_lt, nu_cmp_gt, nu_cmp_ge, nu_cmp_le, nu_wide, Int32.toInt_add, Int32.toInt_sub, Int32.toInt_mul, nu_I, Nat.reducePow, nu_bm, Int32.reduceToInt, Int64.reduceToInt]; omega) ?_
      repeat refine zA_step rfl rfl ?_
      have hW4 : paW (agP p k) 2000 := (agP_W hW).mono (show py p + k ≤ 2000 by omega)
      refine zA_call rfl rfl (mo_whoSwears (Or.inr (Or.inl rfl)) hM3 hW4 (by omega) hs ?_)
      refine zA_call rfl rfl (mo_bits (bn_lt64 _ w6) ?_)
      show zA _ _ _ _ (.int (nI (cS (agP p k) s)) :: _) _ _
      have hc6 : cS (agP p k) s ≤ 6 := cS_le
      repeat refine zA_step rfl rfl ?_
      unfold ff at K
      by_cases h : cS (agP p k) s < n
      · refine zA_f (by simp (disch := omega) only [nu_lt, nu_le, nu_eq, nu_cmp_lt, nu_cmp_gt, nu_cmp_ge, nu_cmp_le, nu_wide, Int32.toInt_add, Int32.toInt_sub, Int32.toInt_mul, nu_I, Nat.reducePow, nu_bm, Int32.reduceToInt, Int64.reduceToInt]; omega) ?_
        repeat refine zA_step rfl rfl ?_
        rw [if_pos (show P k = true from decide_eq_true h)] at K
        exact zA_ret rfl (K _ hF3)
      · refine zA_t (by simp (disch := omega) only [nu_lt, nu_le, nu_eq, nu_cmp_lt, nu_cmp_gt, nu_cmp_ge, nu_cmp_le, nu_wide, Int32.toInt_add, Int32.toInt_sub, Int32.toInt_mul, nu_I, Nat.reducePow, nu_bm, Int32.reduceToInt, Int64.reduceToInt]; omega) ?_
        repeat refine zA_step rfl rfl ?_
        rw [if_neg (show ¬ P k = true from fun z => h (of_decide_eq_true z))] at K
        refine zA_call rfl rfl (mo_age (n := 1) (Or.inr (Or.inl rfl)) hM3 hW4 (by omega) (by omega) (fun σ6 hF6 hM6 => ?_))
        repeat refine zA_step rfl rfl ?_
        rw [agP_s] at hM6
        exact ih (k + 1) (by omega) _ (hF3.tr hF6) hM6 _ (nI_1 k) K
  refine lpm _ 100 0 (by omega) σ5 zFr.rf hM5 0 rfl (fun σ6 hF6 => ⟨rfl, hR.kp (zK_then (zK_then (hk4.up rfl) hF5) hF6)⟩)
