/-! order, the pair -/
theorem sm_ext {f : Nat → Nat} {a : Nat} : ∀ n, (∀ k, a ≤ k → k < a + n → f k = 0) → sm f (a + n) = sm f a
  | 0, _ => rfl
  | n + 1, h => by
    rw [show a + (n + 1) = (a + n) + 1 by omega, sm, sm_ext n (fun k h1 h2 => h k h1 (by omega)), h (a + n) (by omega) (by omega)]
    rfl
theorem oT_6 {p : paT} (w6 : pw p ≤ 6) (s : Nat) : sm (fun v => if (Wm p s).testBit v = true then wy p s (2 ^ v) v else 0) 6 = oT p s := by
  unfold oT
  have := sm_ext (f := fun v => if (Wm p s).testBit v = true then wy p s (2 ^ v) v else 0) (a := pw p) (6 - pw p) (fun k h1 _ => by
    have : (Wm p s).testBit k = false := by unfold Wm; rw [bn_tb]; simp; omega
    simp only [this]; simp)
  rw [show pw p + (6 - pw p) = 6 by omega] at this
  exact this
theorem one_sub : ∀ y, y < 64 → ∀ v, v < 6 → (2 ^ v &&& (63 ^^^ y) = 0 ↔ y.testBit v = true) := by decide +kernel
set_option maxHeartbeats 4000000 in
set_option maxRecDepth 100000 in
theorem mo_count {d s Y c : Nat} {σ : zSo} {Q : Option Value → zSo → Prop} {p : paT} {x2 : Int32} (hW : paW p Y) (hD : OD σ p s 0) (hc : c ≤ 1)
    (hQ : zA d 167 175 [(0, .ref 70), (1, .int (nI s)), (2, .int x2), (3, .int (nI (Wm p s))), (4, .int (nI (c + oT p s))), (5, .int 6)] [] σ Q) : zA d 167 142 [(0, .ref 70), (1, .int (nI s)), (2, .int x2), (3, .int (nI (Wm p s))), (4, .int (nI c)), (5, .int 0)] [] σ Q := by
  have w6 := hW.2.2.2.2.1
  have hWm := Wm_lt w6 s
  let f : Nat → Nat := fun v => if (Wm p s).testBit v = true then wy p s (2 ^ v) v else 0
  have hf : ∀ v, f v = if (Wm p s).testBit v = true then wy p s (2 ^ v) v else 0 := fun _ => rfl
  have hfl : ∀ v, f v ≤ 46656 := fun v => by
    rw [hf]
    split
    · exact wy_le w6 _ _ _
    · omega
  have lp : ∀ m k, k + m = 6 → ∀ i : Int32, i = nI k → zA d 167 142 [(0, .ref 70), (1, .int (nI s)), (2, .int x2), (3, .int (nI (Wm p s))), (4, .int (nI (c + sm f k))), (5, .int i)] [] σ Q := by
    intro m
    induction m with
    | zero =>
      intro k hk i ei
      subst ei
      have : k = 6 := by omega
      subst this
      rw [show sm f 6 = oT p s from oT_6 w6 s]
      refine zA_s0 rfl ?_
      refine zA_s0 rfl ?_
      refine zA_s0 rfl ?_
      refine zA_t (by decide) ?_
      exact hQ
    | succ m ih =>
      intro k hk i ei
      subst ei
      have hle : sm f k ≤ k * 46656 := sm_le (fun j _ => hfl j)
      have h2k : 2 ^ k < 64 := Nat.pow_lt_pow_right (a := 2) (by omega) (show k < 6 by omega)
      have h2p : 0 < 2 ^ k := Nat.pow_pos (by omega)
      have hv := hD (2 ^ k) h2p h2k k (by omega)
      have e : (if 2 ^ k &&& (63 ^^^ Wm p s) = 0 ∧ (2 ^ k).testBit k = true then wy p s (2 ^ k) k else 0) = f k := by
        rw [hf]
        by_cases h : (Wm p s).testBit k = true
        · rw [if_pos h, if_pos ⟨(one_sub _ hWm k (by omega)).mpr h, by simp⟩]
        · rw [if_neg h, if_neg (fun z => h ((one_sub _ hWm k (by omega)).mp z.1))]
      rw [e] at hv
      refine zA_s0 rfl ?_
      repeat refine zA_step rfl rfl ?_
      refine zA_f (by simp (disch := omega) only [nu_lt, nu_le, nu_eq, nu_cmp_lt, nu_cmp_gt, nu_cmp_ge, nu_cmp_le, nu_wide, Int32.toInt_add, Int32.toInt_sub, Int32.toInt_mul, nu_I, Nat.reducePow, nu_bm, Int32.reduceToInt, Int64.reduceToInt]; omega) ?_
      repeat refine zA_step rfl rfl ?_
      rw [nu_shl k (by omega)]
      refine zA_ld (j := 6 * 2 ^ k + k) rfl (by rw [nu_eq]; simp (disch := omega) only [Int32.toInt_add, Int32.toInt_sub, Int32.toInt_mul, nu_I, Nat.reducePow, nu_bm, Int32.reduceToInt, Int64.reduceToInt]; omega) (by omega) (by decide) hv ?_
      repeat refine zA_step rfl rfl ?_
      rw [nI_add, Nat.add_assoc]
      exact ih (k + 1) (by omega) _ (nI_1 k)
  exact lp 6 0 (by omega) 0 rfl
set_option maxHeartbeats 4000000 in
set_option maxRecDepth 100000 in
theorem mo_next {d s Y M v i : Nat} {σ : zSo} {Q : Option Value → zSo → Prop} {p : paT} {x2 : Int32} (lw : Option Nat) (hP : PM (σ 74) p) (hW : paW p Y) (hY : Y ≤ 2000) (hs : s < ps p) (hD : OD σ p s 0) (hM : M < 64) (hMs : M &&& (63 ^^^ Wm p s) = 0) (hlw : ∀ w, lw = some w → (Wm p s).testBit w = true) (hv : ff (pP p s M lw) 6 0 = some v)
    (hQ : zA (d + 6) 167 214 [(0, .ref 70), (1, .int (nI s)), (2, .int x2), (3, .int (nI (Wm p s))), (5, .int (nI (M ||| 2 ^ v))), (6, .int (nI v)), (7, .int (nI i + 1))] [] σ Q) :
    ∀ m u, u + m = v → ∀ ii : Int32, ii = nI u → zA (d + 6) 167 223 [(0, .ref 70), (1, .int (nI s)), (2, .int x2), (3, .int (nI (Wm p s))), (5, .int (nI M)), (6, .int (eO lw)), (7, .int (nI i)), (8, .int ii)] [] σ Q := by
  have w6 := hW.2.2.2.2.1
  have hWm := Wm_lt w6 s
  have ha : Wm p s &&& (63 ^^^ M) < 64 := Nat.lt_of_le_of_lt Nat.and_le_left hWm
  obtain ⟨v1, -, v3, v4⟩ := ff_is hv
  -- one place: the two ways on
  have step : ∀ u, u ≤ v → (pP p s M lw u = false → zA (d + 6) 167 223 [(0, .ref 70), (1, .int (nI s)), (2, .int x2), (3, .int (nI (Wm p s))), (5, .int (nI M)), (6, .int (eO lw)), (7, .int (nI i)), (8, .int (nI u + 1))] [] σ Q) → (pP p s M lw u = true → zA (d + 6) 167 214 [(0, .ref 70), (1, .int (nI s)), (2, .int x2), (3, .int (nI (Wm p s))), (5, .int (nI (M ||| 2 ^ u))), (6, .int (nI u)), (7, .int (nI i + 1))] [] σ Q) → zA (d + 6) 167 223 [(0, .ref 70), (1, .int (nI s)), (2, .int x2), (3, .int (nI (Wm p s))), (5, .int (nI M)), (6, .int (eO lw)), (7, .int (nI i)), (8, .int (nI u))] [] σ Q := by
    intro u hu kf kt
    have tail : (Wm p s).testBit u = true → M.testBit u = false → nrl p s lw u = true → zA (d + 6) 167 256 [(0, .ref 70), (1, .int (nI s)), (2, .int x2), (3, .int (nI (Wm p s))), (5, .int (nI M)), (6, .int (eO lw)), (7, .int (nI i)), (8, .int (nI u))] [] σ Q := by
      intro h1 h2 h3
      have g1 := or_6 M hM u (by omega)
      have g2 := or_gt h2
      have g3 := sub_or M hM _ hWm u (by omega) hMs h1
      have hv := hD _ (by omega) g1 u (by omega)
      rw [if_pos ⟨g3, by rw [bit_or]; simp⟩] at hv
      have g4 := wy_le w6 s (M ||| 2 ^ u) u
      repeat refine zA_step rfl rfl ?_
      rw [nu_shl u (by omega), nu_or]
      refine zA_ld (j := 6 * (M ||| 2 ^ u) + u) rfl (by rw [nu_eq]; simp (disch := omega) only [Int32.toInt_add, Int32.toInt_sub, Int32.toInt_mul, nu_I, Nat.reducePow, nu_bm, Int32.reduceToInt, Int64.reduceToInt]; omega) (by omega) (by decide) hv ?_
      repeat refine zA_step rfl rfl ?_
      by_cases e : 0 < wy p s (M ||| 2 ^ u) u
      · refine zA_f (by simp (disch := omega) only [nu_lt, nu_le, nu_eq, nu_cmp_lt, nu_cmp_gt, nu_cmp_ge, nu_cmp_le, nu_wide, Int32.toInt_add, Int32.toInt_sub, Int32.toInt_mul, nu_I, Nat.reducePow, nu_bm, Int32.reduceToInt, Int64.reduceToInt]; omega) ?_
        repeat refine zA_step rfl rfl ?_
        rw [nu_shl u (by omega), nu_or]
        refine zA_dr rfl rfl rfl ?_
        exact kt (by unfold pP; rw [h1, h2, h3]; simp [e])
      · refine zA_t (by simp (disch := omega) only [nu_lt, nu_le, nu_eq, nu_cmp_lt, nu_cmp_gt, nu_cmp_ge, nu_cmp_le, nu_wide, Int32.toInt_add, Int32.toInt_sub, Int32.toInt_mul, nu_I, Nat.reducePow, nu_bm, Int32.reduceToInt, Int64.reduceToInt]; omega) ?_
        repeat refine zA_step rfl rfl ?_
        exact kf (by unfold pP; simp [e])
    refine zA_s0 rfl ?_
    repeat refine zA_step rfl rfl ?_
    rw [nu_sub6 _ hWm M hM]
    refine zA_call rfl rfl (mo_has ha (by omega) (fun h => ?_) (fun h => ?_))
    · rw [and_tb _ hWm _ hM u (by omega)] at h
      obtain ⟨h1, h2⟩ := Bool.and_eq_true_iff.mp h
      have h2' : M.testBit u = false := by simpa using h2
      cases lw with
      | none =>
        refine zA_s0 rfl ?_
        refine zA_s0 rfl ?_
        refine zA_s0 rfl ?_
        refine zA_s0 rfl ?_
        exact tail h1 h2' rfl
      | some w =>
        have hww := hlw w rfl
        have hw6 := (Wm_say hww).1
        show zA _ _ _ [(0, .ref 70), (1, .int (nI s)), (2, .int x2), (3, .int (nI (Wm p s))), (5, .int (nI M)), (6, .int (nI w)), (7, .int (nI i)), (8, .int (nI u))] _ _ _
        repeat refine zA_step rfl rfl ?_
        refine zA_f (nu_nI_NO (by omega)) ?_
        repeat refine zA_step rfl rfl ?_
        refine zA_call rfl rfl (mo_isNear hP hW hY hs h1 hww (fun h3 => ?_) (fun h3 => ?_))
        · refine zA_s0 rfl ?_
          exact tail h1 h2' h3
        · repeat refine zA_step rfl rfl ?_
          exact kf (by unfold pP nrl; simp [h3])
    · rw [and_tb _ hWm _ hM u (by omega)] at h
      repeat refine zA_step rfl rfl ?_
      exact kf (by unfold pP; rw [h]; simp)
  intro m
  induction m with
  | zero =>
    intro u hu ii ei
    subst ei
    have : u = v := by omega
    subst this
    exact step u (Nat.le_refl _) (fun h => by rw [v1] at h; cases h) (fun _ => hQ)
  | succ m ih =>
    intro u hu ii ei
    subst ei
    exact step u (by omega) (fun _ => ih (u + 1) (by omega) _ (nI_1 u)) (fun h => by rw [v4 u (by omega) (by omega)] at h; cases h)
theorem pP_ex {p : paT} {s Y M : Nat} {lw : Option Nat} (hW : paW p Y) (hM : M < 64) (hMs : M &&& (63 ^^^ Wm p s) = 0) (hne : M ≠ Wm p s) (h : (lw = none ∧ M = 0 ∧ 0 < oT p s) ∨ ∃ w, lw = some w ∧ 0 < wy p s M w) : ∃ v, ff (pP p s M lw) 6 0 = some v := by
  have w6 := hW.2.2.2.2.1
  have key : ∃ v, v < 6 ∧ pP p s M lw v = true := by
    rcases h with ⟨rfl, rfl, h⟩ | ⟨w, rfl, h⟩
    · obtain ⟨v, hv, h2⟩ := sm_pos h
      split at h2
      · rename_i hb
        refine ⟨v, by omega, ?_⟩
        unfold pP nrl
        rw [hb, Nat.zero_or]
        simp [h2]
      · omega
    · rw [wy_rec w6 hM hMs, if_neg hne] at h
      obtain ⟨v, hv, h2⟩ := sm_pos h
      split at h2
      · rename_i hb
        refine ⟨v, by omega, ?_⟩
        unfold pP nrl
        rw [hb]
        simp [h2]
      · omega
  obtain ⟨v, hv, h2⟩ := key
  cases e : ff (pP p s M lw) 6 0 with
  | none =>
    have := ff_no e v (by omega) (by omega)
    rw [h2] at this; cases this
  | some x => exact ⟨x, rfl⟩
set_option maxHeartbeats 4000000 in
set_option maxRecDepth 100000 in
theorem mo_first {d s Y k : Nat} {σ : zSo} {Q : Option Value → zSo → Prop} {p : paT} (hP : PM (σ 74) p) (hW : paW p Y) (hY : Y ≤ 2000) (hs : s < ps p) (hD : OD σ p s 0) (hk : k < pc6 (Wm p s)) (hT : 0 < oT p s) (hQ : Q (some (.int (eO (foN p s (k + 1) 0 none)))) σ) :
    zA (d + 6) 167 214 [(0, .ref 70), (1, .int (nI s)), (2, .int (nI k)), (3, .int (nI (Wm p s))), (5, .int 0), (6, .int NO), (7, .int 0)] [] σ Q := by
  have w6 := hW.2.2.2.2.1
  have hWm := Wm_lt w6 s
  have hk6 : pc6 (Wm p s) ≤ 6 := cn_le _ _
  have lp : ∀ m i, i + m = k + 1 → ∀ M lw, M < 64 → pc6 M = i → M &&& (63 ^^^ Wm p s) = 0 → ((lw = none ∧ M = 0 ∧ 0 < oT p s) ∨ ∃ w, lw = some w ∧ (Wm p s).testBit w = true ∧ 0 < wy p s M w) → foN p s m M lw = foN p s (k + 1) 0 none → ∀ ii : Int32, ii = nI i → zA (d + 6) 167 214 [(0, .ref 70), (1, .int (nI s)), (2, .int (nI k)), (3, .int (nI (Wm p s))), (5, .int (nI M)), (6, .int (eO lw)), (7, .int ii)] [] σ Q := by
    intro m
    induction m with
    | zero =>
      intro i hi M lw hM hpc hMs hst hfo ii ei
      subst ei
      have : i = k + 1 := by omega
      subst this
      refine zA_s0 rfl ?_
      repeat refine zA_step rfl rfl ?_
      refine zA_t (by simp (disch := omega) only [nu_lt, nu_le, nu_eq, nu_cmp_lt, nu_cmp_gt, nu_cmp_ge, nu_cmp_le, nu_wide, Int32.toInt_add, Int32.toInt_sub, Int32.toInt_mul, nu_I, Nat.reducePow, nu_bm, Int32.reduceToInt, Int64.reduceToInt]; omega) ?_
      repeat refine zA_step rfl rfl ?_
      rw [← hfo] at hQ
      exact zA_ret rfl hQ
    | succ m ih =>
      intro i hi M lw hM hpc hMs hst hfo ii ei
      subst ei
      have hne : M ≠ Wm p s := fun e => by rw [e] at hpc; omega
      obtain ⟨v, hv⟩ := pP_ex (lw := lw) hW hM hMs hne (by
        rcases hst with h | ⟨w, h1, _, h3⟩
        · exact Or.inl h
        · exact Or.inr ⟨w, h1, h3⟩)
      obtain ⟨v1, -, v3, -⟩ := ff_is hv
      have hv1 := v1
      unfold pP at hv1
      simp only [Bool.and_eq_true, decide_eq_true_eq] at hv1
      obtain ⟨⟨⟨c1, c2⟩, c3⟩, c4⟩ := hv1
      have c2' : M.testBit v = false := by simpa using c2
      refine zA_s0 rfl ?_
      repeat refine zA_step rfl rfl ?_
      refine zA_f (by simp (disch := omega) only [nu_lt, nu_le, nu_eq, nu_cmp_lt, nu_cmp_gt, nu_cmp_ge, nu_cmp_le, nu_wide, Int32.toInt_add, Int32.toInt_sub, Int32.toInt_mul, nu_I, Nat.reducePow, nu_bm, Int32.reduceToInt, Int64.reduceToInt]; omega) ?_
      repeat refine zA_step rfl rfl ?_
      refine mo_next lw hP hW hY hs hD hM hMs (fun w e => ?_) hv ?_ v 0 (by omega) 0 rfl
      · rcases hst with ⟨h, -⟩ | ⟨w', h1, h2, _⟩
        · rw [h] at e; cases e
        · rw [h1] at e; cases e; exact h2
      · refine ih (i + 1) (by omega) (M ||| 2 ^ v) (some v) (or_6 M hM v (by omega)) (by rw [pc6_add M hM v (by omega) c2', hpc]) (sub_or M hM _ hWm v (by omega) hMs c1) (Or.inr ⟨v, rfl, c1, c4⟩) ?_ _ (nI_1 i)
        rw [foN, hv] at hfo
        exact hfo
  exact lp (k + 1) 0 (by omega) 0 none (by omega) (by decide) (by simp) (Or.inl ⟨rfl, rfl, hT⟩) rfl 0 rfl
