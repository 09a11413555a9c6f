/-! drawn, the sums, the pair -/
def sv2 (p : paT) (s : Nat) : Nat := sm (fun w => vO p w s) (pw p)
theorem sm_sv (p : paT) : sm (sv2 p) (ps p) = sm (sw2 p) (pw p) := (sm_swap (vO p) (ps p) (pw p)).symm
set_option maxHeartbeats 4000000 in
set_option maxRecDepth 100000 in
theorem mo_sums {d Y : Nat} {σ : zSo} {Q : Option Value → zSo → Prop} {p : paT} {y : Nat} (hM : PM (σ 76) p) (hW : paW p Y) (hY : Y ≤ 2000) (hy : y < 2) (hQ : Q (some (.int (if y = 0 then nI (bn (anb p (pw p)) (ps p)) else nI (sm (sw2 p) (pw p))))) σ) : zA (d + 10) 172 215 [(0, .ref 70), (3, .int (nI y)), (6, .int 0), (7, .int 0), (8, .int 0)] [] σ Q := by
  have w6 := hW.2.2.2.2.1
  have ws6 := hW.2.2.2.1
  have lin : ∀ s, s < ps p → ∀ a, a ≤ 10000 → (zA (d + 10) 172 215 [(0, .ref 70), (3, .int (nI y)), (6, .int (nI (bn (anb p (pw p)) (s + 1)))), (7, .int (nI (a + sv2 p s))), (8, .int (nI s + 1))] [] σ Q) → ∀ n k, k + n = pw p → ∀ o : Int32, o = (if anb p k s then nI (bn (anb p (pw p)) s) ||| nI (2 ^ s) else nI (bn (anb p (pw p)) s)) → ∀ c : Nat, c = a + sm (fun w => vO p w s) k → ∀ i : Int32, i = nI k → zA (d + 10) 172 229 [(0, .ref 70), (3, .int (nI y)), (6, .int o), (7, .int (nI c)), (8, .int (nI s)), (9, .int i)] [] σ Q := by
    intro s hs a ha K n
    induction n with
    | zero =>
      intro k hk o ho c hc i ei
      subst ei hc
      have : k = pw p := by omega
      subst this
      have eo : o = nI (bn (anb p (pw p)) (s + 1)) := by
        rw [ho]
        cases h : anb p (pw p) s with
        | true => rw [if_pos rfl]; exact bn_t h
        | false => rw [if_neg (by simp), bn_f0 h]
      rw [eo]
      refine zA_s0 rfl ?_
      repeat refine zA_step rfl rfl ?_
      simp only [nu_c3, hM.2.2.1]
      refine zA_t (Int32.le_refl _) ?_
      repeat refine zA_step rfl rfl ?_
      refine zA_dr rfl rfl rfl ?_
      exact K
    | succ n ih =>
      intro k hk o ho c hc i ei
      subst ei hc
      refine zA_s0 rfl ?_
      repeat refine zA_step rfl rfl ?_
      simp only [nu_c3, hM.2.2.1]
      refine zA_f (by simp (disch := omega) only [nu_lt, nu_le, nu_eq, nu_cmp_lt, nu_cmp_gt, nu_cmp_ge, nu_cmp_le, nu_wide, Int32.toInt_add, Int32.toInt_sub, Int32.toInt_mul, nu_I, Nat.reducePow, nu_bm, Int32.reduceToInt, Int64.reduceToInt]; omega) ?_
      repeat refine zA_step rfl rfl ?_
      refine zA_call rfl rfl (mo_says (Or.inr (Or.inl rfl)) hM hW hY (by omega) hs ?_)
      have e : sm (fun w => vO p w s) (k + 1) = sm (fun w => vO p w s) k + vO p k s := rfl
      cases h : sayO p k s with
      | none =>
        have e2 : vO p k s = 0 := by unfold vO; rw [h]
        have e3 : anb p (k + 1) s = anb p k s := by rw [anb_s, h]; simp
        show zA _ _ _ _ (.int NO :: _) _ _
        repeat refine zA_step rfl rfl ?_
        refine zA_dr rfl rfl rfl ?_
        rw [Int32.add_zero, Int32.or_zero]
        exact ih (k + 1) (by omega) o (by rw [e3]; exact ho) (a + sm (fun w => vO p w s) k) (by rw [e, e2]; omega) _ (nI_1 k)
      | some z =>
        have hz := sayO_le hW (by omega) hs h
        have e2 : vO p k s = z := by unfold vO; rw [h]
        have e3 : anb p (k + 1) s = true := by rw [anb_s, h]; simp
        show zA _ _ _ _ (.int (nI z) :: _) _ _
        repeat refine zA_step rfl rfl ?_
        refine zA_f (nu_nI_NO (by omega)) ?_
        repeat refine zA_step rfl rfl ?_
        refine zA_f (nu_nI_NO (by omega)) ?_
        repeat refine zA_step rfl rfl ?_
        refine zA_dr rfl rfl rfl ?_
        rw [nI_add, nu_shl s (by omega)]
        refine ih (k + 1) (by omega) _ ?_ (a + sm (fun w => vO p w s) k + z) (by rw [e, e2]; omega) _ (nI_1 k)
        rw [e3, if_pos rfl, ho]
        split
        · rw [nu_or, nu_or, Nat.or_assoc, Nat.or_self]
        · rfl
  have hsv : ∀ s, s < ps p → sv2 p s ≤ 594 := fun s hs => by
    have : sv2 p s ≤ pw p * 99 := sm_le (fun k hk => vO_le hW hk hs)
    omega
  have lp : ∀ n k, k + n = ps p → ∀ i : Int32, i = nI k → zA (d + 10) 172 215 [(0, .ref 70), (3, .int (nI y)), (6, .int (nI (bn (anb p (pw p)) k))), (7, .int (nI (sm (sv2 p) k))), (8, .int i)] [] σ Q := by
    intro n
    induction n with
    | zero =>
      intro k hk i ei
      subst ei
      have : k = ps p := by omega
      subst this
      refine zA_s0 rfl ?_
      repeat refine zA_step rfl rfl ?_
      simp only [nu_c2, hM.2.1]
      refine zA_t (Int32.le_refl _) ?_
      repeat refine zA_step rfl rfl ?_
      rcases (show y = 0 ∨ y = 1 by omega) with rfl | rfl
      · repeat refine zA_step rfl rfl ?_
        exact zA_ret rfl hQ
      · rw [sm_sv]
        repeat refine zA_step rfl rfl ?_
        exact zA_ret rfl hQ
    | succ n ih =>
      intro k hk i ei
      subst ei
      have hle : sm (sv2 p) k ≤ k * 594 := sm_le (fun j hj => hsv j (by omega))
      refine zA_s0 rfl ?_
      repeat refine zA_step rfl rfl ?_
      simp only [nu_c2, hM.2.1]
      refine zA_f (by simp (disch := omega) only [nu_lt, nu_le, nu_eq, nu_cmp_lt, nu_cmp_gt, nu_cmp_ge, nu_cmp_le, nu_wide, Int32.toInt_add, Int32.toInt_sub, Int32.toInt_mul, nu_I, Nat.reducePow, nu_bm, Int32.reduceToInt, Int64.reduceToInt]; omega) ?_
      repeat refine zA_step rfl rfl ?_
      exact lin k (by omega) (sm (sv2 p) k) (by omega) (ih (k + 1) (by omega) _ (nI_1 k)) (pw p) 0 (by omega) _ (by simp [anb]) _ rfl 0 rfl
  exact lp (ps p) 0 (by omega) 0 rfl
theorem drN_lt (r : Nat) : drN r < 2147483647 := Nat.mod_lt _ (by omega)
theorem drN_lg {l : Int64} {r : Nat} (hl : l.toInt = (r : Int)) (hr : r < 2147483648) : (l * 16807 - l * 16807 / 2147483647 * 2147483647).toInt = (drN r : Int) :=
  lg_rem (lg_mul hl (b := 16807) (by decide) (by omega)) (b := 2147483647) (by decide) (by omega) (by omega)
set_option maxHeartbeats 4000000 in
set_option maxRecDepth 100000 in
theorem pr_drawn {d : Nat} {σ : zSo} (x y z : Int32) (hR : R σ) : zPair (d + 20) 84 172 [.int x, .int y, .int z] σ := by
  obtain ⟨-, -, -, -, ⟨p, ⟨hW, hC, hM, hT, -⟩, -⟩, -⟩ := id hR
  have ws6 := hW.2.2.2.1
  have w6 := hW.2.2.2.2.1
  have hpy := hW.2.2.1
  have hk : zK σ (zup σ 70 0 0) := zK.rf.up rfl
  have hM' : PM (zup σ 70 0 0 74) p := hM
  show zA (d + 20) _ 0 [(0, .ref 0), (1, .int x), (2, .int y), (3, .int z)] [] σ _
  repeat refine zA_step rfl rfl ?_
  by_cases h0 : 0 < ps p
  rotate_left
  · rw [hT, if_neg h0]
    repeat refine zA_step rfl rfl ?_
    refine zA_ret rfl ⟨_, rfl, ?_⟩
    show zA (d + 20) _ 0 [(0, .ref 70), (1, .int x), (2, .int y), (3, .int z)] [] σ _
    repeat refine zA_step rfl rfl ?_
    refine zA_call rfl rfl (mo_isThere (p := p) hM ws6 (fun h => absurd h h0) (fun h => ?_))
    repeat refine zA_step rfl rfl ?_
    exact zA_ret rfl ⟨rfl, hR.kp (zK.rf.up rfl)⟩
  have hT1 : σ 20 0 = 1 := by rw [hT, if_pos h0]
  rw [hT1]
  have bad : ¬ ((0 ≤ x.toInt ∧ x.toInt ≤ 60) ∧ (1 ≤ y.toInt ∧ y.toInt ≤ 999999) ∧ (0 ≤ z.toInt ∧ z.toInt ≤ 1)) → zC (d + 20) 172 [.ref 70, .int x, .int y, .int z] σ (fun r2 σ2 => r2 = some (.int (-1000001)) ∧ R σ2 ∧ ∀ k, 1000 ≤ k → σ2 k = σ k) := by
    intro hn
    show zA (d + 20) _ 0 [(0, .ref 70), (1, .int x), (2, .int y), (3, .int z)] [] σ _
    repeat refine zA_step rfl rfl ?_
    refine zA_call rfl rfl (mo_isThere hM' ws6 (fun h => ?_) (fun h => by omega))
    repeat refine zA_step rfl rfl ?_
    refine zA_call rfl rfl (mo_inI 0 60 (by decide) (by decide) (fun x1 x2 => ?_) (fun z => ?_))
    rotate_left
    · repeat refine zA_step rfl rfl ?_
      exact zA_ret rfl ⟨rfl, hR.kp hk⟩
    repeat refine zA_step rfl rfl ?_
    refine zA_call rfl rfl (mo_inI 1 999999 (by decide) (by decide) (fun y1 y2 => ?_) (fun z => ?_))
    rotate_left
    · repeat refine zA_step rfl rfl ?_
      exact zA_ret rfl ⟨rfl, hR.kp hk⟩
    repeat refine zA_step rfl rfl ?_
    refine zA_call rfl rfl (mo_inI 0 1 (by decide) (by decide) (fun z1 z2 => ?_) (fun z => ?_))
    · exact absurd ⟨⟨x1, x2⟩, ⟨y1, y2⟩, ⟨z1, z2⟩⟩ hn
    · repeat refine zA_step rfl rfl ?_
      exact zA_ret rfl ⟨rfl, hR.kp hk⟩
  repeat refine zA_step rfl rfl ?_
  refine zA_c (fun c1 => ?_) (fun c1 => ?_)
  all_goals simp only [nu_lt, Int32.reduceToInt] at c1
  · repeat refine zA_step rfl rfl ?_
    exact zA_ret rfl ⟨_, rfl, bad (by omega)⟩
  repeat refine zA_step rfl rfl ?_
  refine zA_c (fun c2 => ?_) (fun c2 => ?_)
  all_goals simp only [nu_lt, Int32.reduceToInt] at c2
  · repeat refine zA_step rfl rfl ?_
    exact zA_ret rfl ⟨_, rfl, bad (by omega)⟩
  repeat refine zA_step rfl rfl ?_
  refine zA_c (fun c3 => ?_) (fun c3 => ?_)
  all_goals simp only [nu_lt, Int32.reduceToInt] at c3
  · repeat refine zA_step rfl rfl ?_
    exact zA_ret rfl ⟨_, rfl, bad (by omega)⟩
  repeat refine zA_step rfl rfl ?_
  refine zA_c (fun c4 => ?_) (fun c4 => ?_)
  all_goals simp only [nu_lt, Int32.reduceToInt] at c4
  · repeat refine zA_step rfl rfl ?_
    exact zA_ret rfl ⟨_, rfl, bad (by omega)⟩
  repeat refine zA_step rfl rfl ?_
  refine zA_call rfl rfl (cl_isEither (fun b hb e => ?_) (fun h => ?_))
  rotate_left
  · repeat refine zA_step rfl rfl ?_
    exact zA_ret rfl ⟨_, rfl, bad (fun z => h z.2.2)⟩
  subst e
  obtain ⟨n, hn, e⟩ := nu_of (n := 61) (x := x) (by omega) (by omega)
  subst e
  obtain ⟨r0, hr0, e⟩ := nu_of (n := 1000000) (x := y) (by omega) (by omega)
  subst e
  rw [nu_I (by omega)] at c1 c2 c3 c4
  repeat refine zA_step rfl rfl ?_
  refine zA_call rfl rfl (cl_become (Or.inl ⟨rfl, rfl⟩) hC hW (Or.inr hT1) (fun σ2 hF hC2 _ => ?_))
  repeat refine zA_step rfl rfl ?_
  have hl0 : (nI r0).toInt64.toInt = (r0 : Int) := by rw [nu_wide, nu_I (by omega)]
  have lpc : ∀ (Q : Option Value → zSo → Prop) (u k : Nat), k + u = n → ∀ (σ3 : zSo) (q : paT) (r : Nat) (l : Int64), zFr tC σ σ3 → PC σ3 29 q → paW q (999 + k) → 0 < ps q → r < 2147483648 → l.toInt = (r : Int) → ∀ i : Int32, i = nI k → (∀ (σ4 : zSo) (l : Int64), zFr tC σ σ4 → PC σ4 29 (drI u q r) → zA (d + 20) 84 96 [(0, .ref 0), (1, .int (nI n)), (3, .int (nI b)), (4, .long l), (6, .int (nI n))] [] σ4 Q) → zA (d + 20) 84 63 [(0, .ref 0), (1, .int (nI n)), (3, .int (nI b)), (4, .long l), (6, .int i)] [] σ3 Q := by
    intro Q u
    induction u with
    | zero =>
      intro k hk σ3 q r l hF3 hC3 hW3 h03 hr hl i ei K
      subst ei
      have : k = n := by omega
      subst this
      refine zA_s0 rfl ?_
      refine zA_s0 rfl ?_
      refine zA_s0 rfl ?_
      refine zA_t (Int32.le_refl _) ?_
      exact K σ3 l hF3 hC3
    | succ u ih =>
      intro k hk σ3 q r l hF3 hC3 hW3 h03 hr hl i ei K
      subst ei
      refine zA_s0 rfl ?_
      repeat refine zA_step rfl rfl ?_
      refine zA_f (by simp (disch := omega) only [nu_lt, nu_le, nu_eq, nu_cmp_lt, nu_cmp_gt, nu_cmp_ge, nu_cmp_le, nu_wide, Int32.toInt_add, Int32.toInt_sub, Int32.toInt_mul, nu_I, Nat.reducePow, nu_bm, Int32.reduceToInt, Int64.reduceToInt]; omega) ?_
      repeat refine zA_step rfl rfl ?_
      have hl' := drN_lg hl hr
      have hlt := drN_lt r
      refine zA_call rfl rfl (cl_passYear hl' (by omega) hC3 hW3 (by omega) h03 (fun σ4 hF4 hC4 => ?_))
      repeat refine zA_step rfl rfl ?_
      exact ih (k + 1) (by omega) σ4 _ (drN r) _ (hF3.tr hF4) hC4 (drP_W hW3 h03) (by rw [(drP_1 q _).1]; exact h03) (by omega) hl' _ (nI_1 k) K
  have hI1 := drI_1 n p r0
  have hIW : paW (drI n p r0) 2000 := by
    have := drI_W (n := n) (r := r0) hW h0
    exact this.mono (by have := this.2.2.1; omega)
  have tomod : ∀ (σ4 : zSo), zFr tC σ σ4 → zC (d + 20) 172 [.ref 70, .int (nI n), .int (nI r0), .int (nI b)] σ4 (fun r2 σ2 => r2 = some (.int (if b = 0 then nI (bn (anb (drI n p r0) (pw (drI n p r0))) (ps (drI n p r0))) else nI (sm (sw2 (drI n p r0)) (pw (drI n p r0))))) ∧ R σ2 ∧ ∀ k, 1000 ≤ k → σ2 k = σ k) := by
    intro σ4 hF4
    have hk4 := zK_tC zK.rf hF4
    have hM4 : PM (zup σ4 70 0 0 74) p := by
      show PM (σ4 74) p
      rw [hF4 _ (by decide)]; exact hM
    show zA (d + 20) _ 0 [(0, .ref 70), (1, .int (nI n)), (2, .int (nI r0)), (3, .int (nI b))] [] σ4 _
    repeat refine zA_step rfl rfl ?_
    refine zA_call rfl rfl (mo_isThere hM4 ws6 (fun h => ?_) (fun h => by omega))
    repeat refine zA_step rfl rfl ?_
    refine zA_call rfl rfl (mo_inI 0 60 (by decide) (by decide) (fun z1 z2 => ?_) (fun z => absurd ⟨by rw [nu_I (by omega)]; omega, by rw [nu_I (by omega)]; omega⟩ z))
    repeat refine zA_step rfl rfl ?_
    refine zA_call rfl rfl (mo_inI 1 999999 (by decide) (by decide) (fun z1 z2 => ?_) (fun z => absurd ⟨by rw [nu_I (by omega)]; omega, by rw [nu_I (by omega)]; omega⟩ z))
    repeat refine zA_step rfl rfl ?_
    refine zA_call rfl rfl (mo_inI 0 1 (by decide) (by decide) (fun z1 z2 => ?_) (fun z => absurd ⟨by rw [nu_I (by omega)]; omega, by rw [nu_I (by omega)]; omega⟩ z))
    repeat refine zA_step rfl rfl ?_
    refine zA_call rfl rfl (mo_layThen hM4 hW (fun σ5 hF5 hM5 => ?_))
    repeat refine zA_step rfl rfl ?_
    have lpm : ∀ (Q : Option Value → zSo → Prop) (u k : Nat), k + u = n → ∀ (σ3 : zSo) (q : paT) (r : Nat) (l : Int64), zFr [76] σ5 σ3 → PM (σ3 76) q → paW q (999 + k) → 0 < ps q → pw q = pw p → r < 2147483648 → l.toInt = (r : Int) → ∀ i : Int32, i = nI k → (∀ (σ4 : zSo) (l : Int64), zFr [76] σ5 σ4 → PM (σ4 76) (drI u q r) → zA (d + 20) 172 206 [(0, .ref 70), (1, .int (nI n)), (3, .int (nI b)), (4, .long l), (6, .int (nI n))] [] σ4 Q) → zA (d + 20) 172 63 [(0, .ref 70), (1, .int (nI n)), (3, .int (nI b)), (4, .long l), (6, .int i)] [] σ3 Q := by
      intro Q u
      induction u with
      | zero =>
        intro k hk σ3 q r l hF3 hM3 hW3 h03 hw3 hr hl i ei K
        subst ei
        have : k = n := by omega
        subst this
        refine zA_s0 rfl ?_
        refine zA_s0 rfl ?_
        refine zA_s0 rfl ?_
        refine zA_t (Int32.le_refl _) ?_
        exact K σ3 l hF3 hM3
      | succ u ih =>
        intro k hk σ3 q r l hF3 hM3 hW3 h03 hw3 hr hl i ei K
        subst ei
        have hl' := drN_lg hl hr
        have hlt := drN_lt r
        have hp3 : PM (σ3 74) p := by rw [hF3 _ (by decide), hF5 _ (by decide)]; exact hM4
        refine zA_s0 rfl ?_
        refine zA_s0 rfl ?_
        refine zA_s0 rfl ?_
        refine zA_f (by simp (disch := omega) only [nu_lt, nu_le, nu_eq, nu_cmp_lt, nu_cmp_gt, nu_cmp_ge, nu_cmp_le, nu_wide, Int32.toInt_add, Int32.toInt_sub, Int32.toInt_mul, nu_I, Nat.reducePow, nu_bm, Int32.reduceToInt, Int64.reduceToInt]; omega) ?_
        refine zA_s0 rfl ?_
        refine zA_s0 rfl ?_
        refine zA_s0 rfl ?_
        refine zA_s0 rfl ?_
        refine zA_s0 rfl ?_
        refine zA_s0 rfl ?_
        refine mo_year (d := d + 10) hl' (by omega) hp3 hw3 hM3 hW3 (by omega) h03 (fun σ4 hF4 hM4 => ?_)
        exact ih (k + 1) (by omega) σ4 _ (drN r) _ (hF3.tr hF4) hM4 (drP_W hW3 h03) (by rw [(drP_1 q _).1]; exact h03) ((drP_1 q _).2.1.trans hw3) (by omega) hl' _ (nI_1 k) K
    refine zA_dr rfl rfl rfl ?_
    refine lpm _ n 0 (by omega) σ5 p r0 _ zFr.rf hM5 hW h0 rfl (by omega) hl0 0 rfl (fun σ6 l hF6 hM6 => ?_)
    repeat refine zA_step rfl rfl ?_
    refine zA_dr rfl rfl rfl ?_
    exact mo_sums (d := d + 10) hM6 hIW (by omega) hb ⟨rfl, hR.kp (zK_then (zK_then (hk4.up rfl) hF5) hF6)⟩
  refine zA_dr rfl rfl rfl ?_
  refine lpc _ n 0 (by omega) σ2 p r0 _ hF hC2 hW h0 (by omega) hl0 0 rfl (fun σ4 l hF4 hC4 => ?_)
  rcases (show b = 0 ∨ b = 1 by omega) with rfl | rfl
  · repeat refine zA_step rfl rfl ?_
    refine zA_call rfl rfl (cl_stonesSworn rfl hC4 hIW (by omega) ?_)
    repeat refine zA_step rfl rfl ?_
    exact zA_ret rfl ⟨_, rfl, tomod σ4 hF4⟩
  · repeat refine zA_step rfl rfl ?_
    refine zA_call rfl rfl (cl_yardsSworn rfl hC4 hIW (by omega) ?_)
    repeat refine zA_step rfl rfl ?_
    exact zA_ret rfl ⟨_, rfl, tomod σ4 hF4⟩
