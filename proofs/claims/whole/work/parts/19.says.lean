/-! the reference: what a witness swears -/
theorem sayO_eq {p : paT} {w s : Nat} {q : Nat × Nat × Nat} (h : pm p w s = some q) : sayO p w s = if py p - q.2.2 < pl p * q.2.1 ∧ (pa p w < pe p w ∨ pk p w = 5) ∧ (pk p w = 4 → 5 ≤ q.2.1) then
      some (if pk p w = 2 then clI (q.1 + pb p w) else if pk p w = 3 then clI ((q.1 + (py p - q.2.2) / pd p : Nat) : Int) else q.1) else none := by
  unfold sayO
  rw [h]
theorem sayO_no {p : paT} {w s : Nat} (h : pm p w s = none) : sayO p w s = none := by
  unfold sayO
  rw [h]
theorem nu_tdiv {a b : Nat} (ha : a < 2147483648) (hb : b < 2147483648) (h0 : 0 < b) : nI a / nI b = nI (a / b) := pk_div ha h0 hb
set_option maxHeartbeats 4000000 in
set_option maxRecDepth 100000 in
theorem mo_says_end {d : Nat} {σ : zSo} {Q : Option Value → zSo → Prop} {R w s Y y : Nat} {p : paT} {q : Nat × Nat × Nat} (hR : mR R) (hP : PM (σ R) p) (hW : paW p Y) (hY : Y ≤ 2000) (hw : w < pw p) (hs : s < ps p) (hm : pm p w s = some q) (hy : sayO p w s = some y) (hQ : Q (some (.int (nI y))) σ) :
    zA (d + 2) 139 96 [(0, .ref R), (1, .int (nI w)), (2, .int (nI s)), (3, .int (nI (35 + 3 * (6 * w + s)))), (4, .int (nI (pk p w))), (5, .int (nI (py p) - nI q.2.2)), (6, .int 1)] [] σ Q := by
  obtain ⟨q1, q2, q3⟩ := q
  obtain ⟨⟨wl1, wl2⟩, ⟨wd1, wd2⟩, wy, ws6, ww6, wyd, www, wmm⟩ := hW
  obtain ⟨⟨wk1, wk2⟩, ⟨wa1, wa2⟩, we, wb1, wb2⟩ := www w hw
  obtain ⟨m1, ⟨m2, m3⟩, m4⟩ := wmm w s hw hs _ hm
  obtain ⟨h0, h2, h3, h4, h5, h6, h7⟩ := hP
  obtain ⟨v0, v1⟩ := h0 (by omega)
  obtain ⟨u0, u1, u2, u3⟩ := h6 w hw
  have b0 := h7 w s hw hs 0 (by omega)
  rw [hm] at b0
  dsimp only at m1 m2 m3 m4
  rw [sayO_eq hm] at hy
  split at hy
  rotate_left
  · cases hy
  rename_i hc
  have hy := Option.some.inj hy
  dsimp only at hy
  have hb := nu_ofI (z := pb p w) (by omega) (by omega)
  have e1 : nI (py p) - nI q3 = nI (py p - q3) := pk_sub (by omega)
  rw [e1]
  have fin : ∀ z : Int, -100 ≤ z → z ≤ 3000 → clI z = y → ∀ x : Int32, x.toInt = z → zA (d + 2) 139 (if 0 ≤ x then 146 else 142) [(0, .ref R), (1, .int (nI w)), (2, .int (nI s)), (3, .int (nI (35 + 3 * (6 * w + s)))), (4, .int (nI (pk p w))), (5, .int (nI (py p - q3))), (6, .int 1), (7, .int x)] [] σ Q := by
    intro z z1 z2 z3 x hx
    unfold clI at z3
    by_cases c1 : z < 0
    · refine zA_f (by simp (disch := omega) only [nu_lt, nu_le, nu_eq, nu_cmp_lt, nu_cmp_gt, nu_cmp_ge, nu_cmp_le, nu_wide, Int32.toInt_add, Int32.toInt_sub, Int32.toInt_mul, nu_I, Nat.reducePow, nu_bm, Int32.reduceToInt, Int64.reduceToInt]; omega) ?_
      repeat refine zA_step rfl rfl ?_
      rw [if_pos c1] at z3
      refine zA_ret rfl ?_
      subst z3
      exact hQ
    · refine zA_t (by simp (disch := omega) only [nu_lt, nu_le, nu_eq, nu_cmp_lt, nu_cmp_gt, nu_cmp_ge, nu_cmp_le, nu_wide, Int32.toInt_add, Int32.toInt_sub, Int32.toInt_mul, nu_I, Nat.reducePow, nu_bm, Int32.reduceToInt, Int64.reduceToInt]; omega) ?_
      repeat refine zA_step rfl rfl ?_
      rw [if_neg c1] at z3
      by_cases c2 : 99 < z
      · refine zA_f (by simp (disch := omega) only [nu_lt, nu_le, nu_eq, nu_cmp_lt, nu_cmp_gt, nu_cmp_ge, nu_cmp_le, nu_wide, Int32.toInt_add, Int32.toInt_sub, Int32.toInt_mul, nu_I, Nat.reducePow, nu_bm, Int32.reduceToInt, Int64.reduceToInt]; omega) ?_
        repeat refine zA_step rfl rfl ?_
        rw [if_pos c2] at z3
        refine zA_ret rfl ?_
        subst z3
        exact hQ
      · refine zA_t (by simp (disch := omega) only [nu_lt, nu_le, nu_eq, nu_cmp_lt, nu_cmp_gt, nu_cmp_ge, nu_cmp_le, nu_wide, Int32.toInt_add, Int32.toInt_sub, Int32.toInt_mul, nu_I, Nat.reducePow, nu_bm, Int32.reduceToInt, Int64.reduceToInt]; omega) ?_
        repeat refine zA_step rfl rfl ?_
        rw [if_neg c2] at z3
        refine zA_ret rfl ?_
        rw [nu_eqI (x := x) (n := y) (by omega)]
        exact hQ
  have hw6 : w < 6 := by omega
  have hs6 : s < 6 := by omega
  have hmr := hR
  rcases hR with rfl | rfl | rfl
  all_goals
    repeat refine zA_step rfl rfl ?_
    refine zA_ld (j := 35 + 3 * (6 * w + s)) rfl rfl (by omega) (by decide) b0 ?_
    show zA _ _ _ _ (.int (nI q1) :: _) _ _
    repeat refine zA_step rfl rfl ?_
    by_cases k2 : pk p w = 2
    · refine zA_t (by simp (disch := omega) only [nu_lt, nu_le, nu_eq, nu_cmp_lt, nu_cmp_gt, nu_cmp_ge, nu_cmp_le, nu_wide, Int32.toInt_add, Int32.toInt_sub, Int32.toInt_mul, nu_I, Nat.reducePow, nu_bm, Int32.reduceToInt, Int64.reduceToInt]; omega) ?_
      repeat refine zA_step rfl rfl ?_
      refine zA_call rfl rfl (mo_of hmr hw6 (k := 3) (by omega) u3 ?_)
      repeat refine zA_step rfl rfl ?_
      rw [if_pos k2] at hy
      refine fin (q1 + pb p w) (by omega) (by omega) hy _ ?_
      rw [nu_add (by rw [nu_I (by omega), hb]; omega) (by rw [nu_I (by omega), hb]; omega), nu_I (by omega), hb]
    · rw [if_neg k2] at hy
      refine zA_f (by simp (disch := omega) only [nu_lt, nu_le, nu_eq, nu_cmp_lt, nu_cmp_gt, nu_cmp_ge, nu_cmp_le, nu_wide, Int32.toInt_add, Int32.toInt_sub, Int32.toInt_mul, nu_I, Nat.reducePow, nu_bm, Int32.reduceToInt, Int64.reduceToInt]; omega) ?_
      repeat refine zA_step rfl rfl ?_
      by_cases k3 : pk p w = 3
      · refine zA_t (by simp (disch := omega) only [nu_lt, nu_le, nu_eq, nu_cmp_lt, nu_cmp_gt, nu_cmp_ge, nu_cmp_le, nu_wide, Int32.toInt_add, Int32.toInt_sub, Int32.toInt_mul, nu_I, Nat.reducePow, nu_bm, Int32.reduceToInt, Int64.reduceToInt]; omega) ?_
        repeat refine zA_step rfl rfl ?_
        simp only [nu_c1, v1]
        refine zA_if rfl (by simp (disch := omega) only [nu_lt, nu_le, nu_eq, nu_cmp_lt, nu_cmp_gt, nu_cmp_ge, nu_cmp_le, nu_wide, Int32.toInt_add, Int32.toInt_sub, Int32.toInt_mul, nu_I, Nat.reducePow, nu_bm, Int32.reduceToInt, Int64.reduceToInt]; omega) ?_
        repeat refine zA_step rfl rfl ?_
        rw [if_pos k3] at hy
        rw [nu_tdiv (by omega) (by omega) (by omega)]
        have hdv : (py p - q3) / pd p ≤ py p - q3 := Nat.div_le_self _ _
        generalize (py p - q3) / pd p = dv at hy hdv ⊢
        refine fin ((q1 + dv : Nat) : Int) (by omega) (by omega) hy _ ?_
        rw [nu_add (by rw [nu_I (by omega), nu_I (by omega)]; omega) (by rw [nu_I (by omega), nu_I (by omega)]; omega), nu_I (by omega), nu_I (by omega)]
        omega
      · rw [if_neg k3] at hy
        refine zA_f (by simp (disch := omega) only [nu_lt, nu_le, nu_eq, nu_cmp_lt, nu_cmp_gt, nu_cmp_ge, nu_cmp_le, nu_wide, Int32.toInt_add, Int32.toInt_sub, Int32.toInt_mul, nu_I, Nat.reducePow, nu_bm, Int32.reduceToInt, Int64.reduceToInt]; omega) ?_
        repeat refine zA_step rfl rfl ?_
        refine fin (q1 : Int) (by omega) (by omega) ?_ _ ?_
        · unfold clI
          rw [if_neg (by omega), if_neg (by omega)]
          omega
        · rw [Int32.add_zero, nu_I (by omega)]
set_option maxHeartbeats 4000000 in
set_option maxRecDepth 100000 in
theorem mo_says {d : Nat} {σ : zSo} {Q : Option Value → zSo → Prop} {R w s Y : Nat} {p : paT} (hR : mR R) (hP : PM (σ R) p) (hW : paW p Y) (hY : Y ≤ 2000) (hw : w < pw p) (hs : s < ps p) (hQ : Q (some (.int (eO (sayO p w s)))) σ) : zC (d + 2) 139 [.ref R, .int (nI w), .int (nI s)] σ Q := by
  have hmr := hR
  have hPM := hP
  have hWW := hW
  obtain ⟨⟨wl1, wl2⟩, ⟨wd1, wd2⟩, wy, ws6, ww6, wyd, www, wmm⟩ := hW
  obtain ⟨⟨wk1, wk2⟩, ⟨wa1, wa2⟩, we, wb1, wb2⟩ := www w hw
  obtain ⟨h0, h2, h3, h4, h5, h6, h7⟩ := hP
  obtain ⟨v0, v1⟩ := h0 (by omega)
  obtain ⟨u0, u1, u2, u3⟩ := h6 w hw
  have b := h7 w s hw hs
  have hw6 : w < 6 := by omega
  have hs6 : s < 6 := by omega
  show zA (d + 2) _ 0 [(0, .ref R), (1, .int (nI w)), (2, .int (nI s))] [] σ Q
  repeat refine zA_step rfl rfl ?_
  refine zA_call rfl rfl (mo_known hw6 hs6 ?_)
  repeat refine zA_step rfl rfl ?_
  refine zA_call rfl rfl (mo_of hmr hw6 (k := 0) (by omega) u0 ?_)
  cases hm : pm p w s with
  | none =>
    rw [sayO_no hm] at hQ
    rw [hm] at b
    rcases hR with rfl | rfl | rfl
    all_goals
      repeat refine zA_step rfl rfl ?_
      refine zA_ld (j := 35 + 3 * (6 * w + s) + 2) rfl (nI_add _ _) (by omega) (by decide) (b 2 (by omega)) ?_
      show zA _ _ _ _ (.int NO :: _) _ _
      repeat refine zA_step rfl rfl ?_
      exact zA_ret rfl hQ
  | some q =>
    rw [hm] at b
    obtain ⟨m1, ⟨m2, m3⟩, m4⟩ := wmm w s hw hs _ hm
    have hLb : pl p * q.2.1 ≤ 30 * 9 := Nat.mul_le_mul wl2 m3
    have hsy := sayO_eq hm
    have b1 := b 1 (by omega)
    have b2 := b 2 (by omega)
    have b1 : σ R (35 + 3 * (6 * w + s) + 1) = nI q.2.1 := b1
    have b2 : σ R (35 + 3 * (6 * w + s) + 2) = nI q.2.2 := b2
    have fin : ∀ y, sayO p w s = some y → zA (d + 2) 139 96 [(0, .ref R), (1, .int (nI w)), (2, .int (nI s)), (3, .int (nI (35 + 3 * (6 * w + s)))), (4, .int (nI (pk p w))), (5, .int (nI (py p) - nI q.2.2)), (6, .int 1)] [] σ Q := fun y hy => by
      rw [hy] at hQ
      exact mo_says_end hmr hPM hWW hY hw hs hm hy hQ
    have nof : sayO p w s = none → Q (some (.int (-1000000))) σ := fun hn => by
      rw [hn] at hQ
      exact hQ
    generalize hL : pl p * q.2.1 = L at hLb hsy
    have hL2 : nI (pl p) * nI q.2.1 = nI L := by rw [pk_mul, hL]
    rcases hR with rfl | rfl | rfl
    all_goals
      repeat refine zA_step rfl rfl ?_
      refine zA_ld (j := 35 + 3 * (6 * w + s) + 2) rfl (nI_add _ _) (by omega) (by decide) b2 ?_
      repeat refine zA_step rfl rfl ?_
      refine zA_f (by simp (disch := omega) only [nu_lt, nu_le, nu_eq, nu_cmp_lt, nu_cmp_gt, nu_cmp_ge, nu_cmp_le, nu_wide, Int32.toInt_add, Int32.toInt_sub, Int32.toInt_mul, nu_I, Nat.reducePow, nu_bm, Int32.reduceToInt, Int64.reduceToInt]; omega) ?_
      repeat refine zA_step rfl rfl ?_
      refine zA_ld (j := 35 + 3 * (6 * w + s) + 2) rfl (nI_add _ _) (by omega) (by decide) b2 ?_
      repeat refine zA_step rfl rfl ?_
      refine zA_ld (j := 35 + 3 * (6 * w + s) + 1) rfl (nI_add _ _) (by omega) (by decide) b1 ?_
      simp only [nu_c0, nu_c4, v0, h4]
      repeat refine zA_step rfl rfl ?_
      rw [hL2]
      by_cases c1 : py p - q.2.2 < L
      · refine zA_f (by simp (disch := omega) only [nu_lt, nu_le, nu_eq, nu_cmp_lt, nu_cmp_gt, nu_cmp_ge, nu_cmp_le, nu_wide, Int32.toInt_add, Int32.toInt_sub, Int32.toInt_mul, nu_I, Nat.reducePow, nu_bm, Int32.reduceToInt, Int64.reduceToInt]; omega) ?_
        repeat refine zA_step rfl rfl ?_
        refine zA_call rfl rfl (mo_isAlive hmr hw6 u1 u2 (by omega) (by omega) (fun ha => ?_) (fun ha => ?_))
        · repeat refine zA_step rfl rfl ?_
          by_cases k4 : pk p w = 4
          · refine zA_t (by simp (disch := omega) only [nu_lt, nu_le, nu_eq, nu_cmp_lt, nu_cmp_gt, nu_cmp_ge, nu_cmp_le, nu_wide, Int32.toInt_add, Int32.toInt_sub, Int32.toInt_mul, nu_I, Nat.reducePow, nu_bm, Int32.reduceToInt, Int64.reduceToInt]; omega) ?_
            repeat refine zA_step rfl rfl ?_
            refine zA_ld (j := 35 + 3 * (6 * w + s) + 1) rfl (nI_add _ _) (by omega) (by decide) b1 ?_
            repeat refine zA_step rfl rfl ?_
            by_cases c5 : q.2.1 < 5
            · refine zA_t (by simp (disch := omega) only [nu_lt, nu_le, nu_eq, nu_cmp_lt, nu_cmp_gt, nu_cmp_ge, nu_cmp_le, nu_wide, Int32.toInt_add, Int32.toInt_sub, Int32.toInt_mul, nu_I, Nat.reducePow, nu_bm, Int32.reduceToInt, Int64.reduceToInt]; omega) ?_
              repeat refine zA_step rfl rfl ?_
              refine zA_ret rfl (nof ?_)
              rw [hsy, if_neg]
              rintro ⟨-, -, z⟩
              have := z k4
              omega
            · refine zA_f (by simp (disch := omega) only [nu_lt, nu_le, nu_eq, nu_cmp_lt, nu_cmp_gt, nu_cmp_ge, nu_cmp_le, nu_wide, Int32.toInt_add, Int32.toInt_sub, Int32.toInt_mul, nu_I, Nat.reducePow, nu_bm, Int32.reduceToInt, Int64.reduceToInt]; omega) ?_
              iterate 5 refine zA_s0 rfl ?_
              exact fin _ (by rw [hsy, if_pos ⟨c1, Or.inl ha, fun _ => by omega⟩])
          · refine zA_f (by simp (disch := omega) only [nu_lt, nu_le, nu_eq, nu_cmp_lt, nu_cmp_gt, nu_cmp_ge, nu_cmp_le, nu_wide, Int32.toInt_add, Int32.toInt_sub, Int32.toInt_mul, nu_I, Nat.reducePow, nu_bm, Int32.reduceToInt, Int64.reduceToInt]; omega) ?_
            iterate 5 refine zA_s0 rfl ?_
            exact fin _ (by rw [hsy, if_pos ⟨c1, Or.inl ha, fun z => absurd z k4⟩])
        · repeat refine zA_step rfl rfl ?_
          by_cases k5 : pk p w = 5
          · refine zA_t (by simp (disch := omega) only [nu_lt, nu_le, nu_eq, nu_cmp_lt, nu_cmp_gt, nu_cmp_ge, nu_cmp_le, nu_wide, Int32.toInt_add, Int32.toInt_sub, Int32.toInt_mul, nu_I, Nat.reducePow, nu_bm, Int32.reduceToInt, Int64.reduceToInt]; omega) ?_
            repeat refine zA_step rfl rfl ?_
            refine zA_f (by simp (disch := omega) only [nu_lt, nu_le, nu_eq, nu_cmp_lt, nu_cmp_gt, nu_cmp_ge, nu_cmp_le, nu_wide, Int32.toInt_add, Int32.toInt_sub, Int32.toInt_mul, nu_I, Nat.reducePow, nu_bm, Int32.reduceToInt, Int64.reduceToInt]; omega) ?_
            iterate 5 refine zA_s0 rfl ?_
            exact fin _ (by rw [hsy, if_pos ⟨c1, Or.inr k5, fun z => by omega⟩])
          · refine zA_f (by simp (disch := omega) only [nu_lt, nu_le, nu_eq, nu_cmp_lt, nu_cmp_gt, nu_cmp_ge, nu_cmp_le, nu_wide, Int32.toInt_add, Int32.toInt_sub, Int32.toInt_mul, nu_I, Nat.reducePow, nu_bm, Int32.reduceToInt, Int64.reduceToInt]; omega) ?_
            repeat refine zA_step rfl rfl ?_
            refine zA_ret rfl (nof ?_)
            rw [hsy, if_neg]
            rintro ⟨-, z, -⟩
            rcases z with z | z
            · exact ha z
            · exact k5 z
      · refine zA_t (by simp (disch := omega) only [nu_lt, nu_le, nu_eq, nu_cmp_lt, nu_cmp_gt, nu_cmp_ge, nu_cmp_le, nu_wide, Int32.toInt_add, Int32.toInt_sub, Int32.toInt_mul, nu_I, Nat.reducePow, nu_bm, Int32.reduceToInt, Int64.reduceToInt]; omega) ?_
        repeat refine zA_step rfl rfl ?_
        refine zA_ret rfl (nof ?_)
        rw [hsy, if_neg]
        rintro ⟨z, -⟩
        exact c1 z
/-! sets of bits by loops -/
theorem mo_bits_fin : ∀ x, x < 64 → (((((0 + (nI x >>> (nI 0 &&& 31) &&& 1)) + (nI x >>> (nI 1 &&& 31) &&& 1)) + (nI x >>> (nI 2 &&& 31) &&& 1)) + (nI x >>> (nI 3 &&& 31) &&& 1)) + (nI x >>> (nI 4 &&& 31) &&& 1)) + (nI x >>> (nI 5 &&& 31) &&& 1) = nI (pc6 x) := by decide +kernel
set_option maxHeartbeats 4000000 in
set_option maxRecDepth 100000 in
theorem mo_bits {d : Nat} {σ : zSo} {Q : Option Value → zSo → Prop} {x : Nat} (hx : x < 64) (hQ : Q (some (.int (nI (pc6 x)))) σ) : zC d 133 [.int (nI x)] σ Q := by
  show zA d _ 0 [(0, .int (nI x))] [] σ Q
  repeat refine zA_s0 rfl ?_
  refine zA_ret rfl ?_
  rw [← mo_bits_fin x hx] at hQ
  exact hQ
/-- does a witness swear -/
def swb (p : paT) (s : Nat) : Nat → Bool := fun w => (sayO p w s).isSome
theorem eO_dec {p : paT} {Y w s : Nat} (hW : paW p Y) (hw : w < pw p) (hs : s < ps p) : (eO (sayO p w s) = -1000000 ↔ swb p s w = false) := by
  have h := eO_no (o := sayO p w s) (fun y hy => by have := sayO_le hW hw hs hy; omega)
  rw [show (-1000000 : Int32) = NO from rfl, h]
  unfold swb
  cases sayO p w s <;> simp
set_option maxHeartbeats 4000000 in
set_option maxRecDepth 100000 in
theorem mo_whoSwears_lp {d R s Y : Nat} {σ : zSo} {Q : Option Value → zSo → Prop} {p : paT} (hR : mR R) (hP : PM (σ R) p) (hW : paW p Y) (hY : Y ≤ 2000) (hs : s < ps p) (hQ : Q (some (.int (nI (bn (swb p s) (pw p))))) σ) :
    ∀ n k, k + n = pw p → ∀ (x i : Int32), x = nI (bn (swb p s) k) → i = nI k → zA (d + 3) 140 4 [(0, .ref R), (1, .int (nI s)), (2, .int x), (3, .int i)] [] σ Q := by
  have ww6 := hW.2.2.2.2.1
  have h3 := hP.2.2.1
  intro n
  induction n with
  | zero =>
    intro k hk x i ex ei
    subst ex ei
    have : k = pw p := by omega
    subst this
    have hmr := hR
    rcases hR with rfl | rfl | rfl
    all_goals
      refine zA_s0 rfl ?_
      repeat refine zA_step rfl rfl ?_
      simp only [nu_c3, h3]
      refine zA_t (Int32.le_refl _) ?_
      repeat refine zA_step rfl rfl ?_
      exact zA_ret rfl hQ
  | succ n ih =>
    intro k hk x i ex ei
    subst ex ei
    have hmr := hR
    rcases hR with rfl | rfl | rfl
    all_goals
      refine zA_s0 rfl ?_
      repeat refine zA_step rfl rfl ?_
      simp only [nu_c3, h3]
      refine zA_f (by simp (disch := omega) only [nu_lt, nu_le, nu_eq, nu_cmp_lt, nu_cmp_gt, nu_cmp_ge, nu_cmp_le, nu_wide, Int32.toInt_add, Int32.toInt_sub, Int32.toInt_mul, nu_I, Nat.reducePow, nu_bm, Int32.reduceToInt, Int64.reduceToInt]; omega) ?_
      repeat refine zA_step rfl rfl ?_
      refine zA_call rfl rfl (mo_says hmr hP hW hY (by omega) hs ?_)
      repeat refine zA_step rfl rfl ?_
      cases hb : swb p s k with
      | false =>
        refine zA_t ((eO_dec hW (by omega) hs).mpr hb) ?_
        repeat refine zA_step rfl rfl ?_
        exact ih (k + 1) (by omega) _ _ (bn_f hb) (nI_1 k)
      | true =>
        refine zA_f (fun z => by rw [(eO_dec hW (by omega) hs).mp z] at hb; cases hb) ?_
        repeat refine zA_step rfl rfl ?_
        exact ih (k + 1) (by omega) _ _ (by rw [nu_shl k (by omega)]; exact bn_t hb) (nI_1 k)
theorem mo_whoSwears {d R s Y : Nat} {σ : zSo} {Q : Option Value → zSo → Prop} {p : paT} (hR : mR R) (hP : PM (σ R) p) (hW : paW p Y) (hY : Y ≤ 2000) (hs : s < ps p) (hQ : Q (some (.int (nI (bn (swb p s) (pw p))))) σ) : zC (d + 3) 140 [.ref R, .int (nI s)] σ Q := by
  show zA (d + 3) _ 0 [(0, .ref R), (1, .int (nI s))] [] σ Q
  repeat refine zA_step rfl rfl ?_
  exact mo_whoSwears_lp hR hP hW hY hs hQ (pw p) 0 (by omega) 0 0 rfl rfl
