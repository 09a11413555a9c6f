/-! THE CLASS: a parish's reads -/
def cP (P : Nat) : Prop := P = 20 ∨ P = 29 ∨ P = 39 ∨ P = 48
set_option maxHeartbeats 4000000 in
set_option maxRecDepth 100000 in
theorem cl_placeOf {d : Nat} {σ : zSo} {Q : Option Value → zSo → Prop} {P w s : Nat} (hw : w < 6) (hs : s < 6) (hQ : Q (some (.int (nI (6 * w + s)))) σ) : zC d 28 [.ref P, .int (nI w), .int (nI s)] σ Q := by
  show zA d _ 0 [(0, .ref P), (1, .int (nI w)), (2, .int (nI s))] [] σ Q
  repeat refine zA_step rfl rfl ?_
  have e : nI w * 6 + nI s = nI (6 * w + s) := (by rw [nu_eq]; simp (disch := omega) only [Int32.toInt_add, Int32.toInt_sub, Int32.toInt_mul, nu_I, Nat.reducePow, nu_bm, Int32.reduceToInt, Int64.reduceToInt]; omega)
  rw [e]
  exact zA_ret rfl hQ
theorem nu_every : ∀ n, n < 7 → (1 : Int32) <<< (nI n &&& 31) - 1 = nI (2 ^ n - 1) := by decide +kernel
set_option maxHeartbeats 4000000 in
set_option maxRecDepth 100000 in
theorem cl_everybody {d : Nat} {σ : zSo} {Q : Option Value → zSo → Prop} {P : Nat} {p : paT} (hP4 : cP P) (hn : pw p ≤ 6) (h : σ P 5 = nI (pw p)) (hQ : Q (some (.int (nI (2 ^ pw p - 1)))) σ) : zC d 29 [.ref P] σ Q := by
  show zA d _ 0 [(0, .ref P)] [] σ Q
  rcases hP4 with rfl | rfl | rfl | rfl
  all_goals
    repeat refine zA_step rfl rfl ?_
    rw [h, nu_every _ (by omega)]
    exact zA_ret rfl hQ
set_option maxHeartbeats 4000000 in
set_option maxRecDepth 100000 in
theorem cl_age {d : Nat} {σ : zSo} {Q : Option Value → zSo → Prop} {P w Y : Nat} {p : paT} (hP4 : cP P) (hP : PC σ P p) (hW : paW p Y) (hY : Y ≤ 2000) (hw : w < pw p) (hQ : Q (some (.int (nI (pa p w)))) σ) : zC d 30 [.ref P, .int (nI w)] σ Q := by
  show zA d _ 0 [(0, .ref P), (1, .int (nI w))] [] σ Q
  have ww6 := hW.2.2.2.2.1
  obtain ⟨-, ⟨wa1, wa2⟩, -, -⟩ := hW.2.2.2.2.2.2.1 w hw
  have h4 := hP.2.2.2.1
  have u1 := (hP.2.2.2.2.2.1 w hw).2.1
  rcases hP4 with rfl | rfl | rfl | rfl
  all_goals
    repeat refine zA_step rfl rfl ?_
    refine zA_ld (j := w) rfl rfl (by omega) (by decide) u1 ?_
    repeat refine zA_step rfl rfl ?_
    rw [h4, nI_add, show pa p w - py p + py p = pa p w from by omega]
    exact zA_ret rfl hQ
set_option maxHeartbeats 4000000 in
set_option maxRecDepth 100000 in
theorem cl_isAlive {d : Nat} {σ : zSo} {Q : Option Value → zSo → Prop} {P w Y : Nat} {p : paT} (hP4 : cP P) (hP : PC σ P p) (hW : paW p Y) (hY : Y ≤ 2000) (hw : w < pw p) (ht : pa p w < pe p w → Q (some (.int 1)) σ) (hf : ¬ pa p w < pe p w → Q (some (.int 0)) σ) : zC (d + 1) 31 [.ref P, .int (nI w)] σ Q := by
  show zA (d + 1) _ 0 [(0, .ref P), (1, .int (nI w))] [] σ Q
  have ww6 := hW.2.2.2.2.1
  have wy := hW.2.2.1
  obtain ⟨-, ⟨wa1, wa2⟩, we, -⟩ := hW.2.2.2.2.2.2.1 w hw
  have u2 := (hP.2.2.2.2.2.1 w hw).2.2.1
  have hc := hP4
  rcases hP4 with rfl | rfl | rfl | rfl
  all_goals
    repeat refine zA_step rfl rfl ?_
    refine zA_call rfl rfl (cl_age hc hP hW hY hw ?_)
    repeat refine zA_step rfl rfl ?_
    refine zA_ld (j := w) rfl rfl (by omega) (by decide) u2 ?_
    repeat refine zA_step rfl rfl ?_
    by_cases h : pa p w < pe p w
    · refine zA_f (by simp (disch := omega) only [nu_lt, nu_le, nu_eq, nu_cmp_lt, nu_cmp_gt, nu_cmp_ge, nu_cmp_le, nu_wide, Int32.toInt_add, Int32.toInt_sub, Int32.toInt_mul, nu_I, Nat.reducePow, nu_bm, Int32.reduceToInt, Int64.reduceToInt]; omega) ?_
      repeat refine zA_step rfl rfl ?_
      exact zA_ret rfl (ht h)
    · refine zA_t (by simp (disch := omega) only [nu_lt, nu_le, nu_eq, nu_cmp_lt, nu_cmp_gt, nu_cmp_ge, nu_cmp_le, nu_wide, Int32.toInt_add, Int32.toInt_sub, Int32.toInt_mul, nu_I, Nat.reducePow, nu_bm, Int32.reduceToInt, Int64.reduceToInt]; omega) ?_
      repeat refine zA_step rfl rfl ?_
      exact zA_ret rfl (hf h)
set_option maxHeartbeats 4000000 in
set_option maxRecDepth 100000 in
theorem cl_isTakable {d : Nat} {σ : zSo} {Q : Option Value → zSo → Prop} {P w Y : Nat} {p : paT} (hP4 : cP P) (hP : PC σ P p) (hW : paW p Y) (hY : Y ≤ 2000) (hw : w < pw p) (ht : pa p w < pe p w ∧ pa p w ≤ 60 → Q (some (.int 1)) σ) (hf : ¬ (pa p w < pe p w ∧ pa p w ≤ 60) → Q (some (.int 0)) σ) : zC (d + 2) 32 [.ref P, .int (nI w)] σ Q := by
  show zA (d + 2) _ 0 [(0, .ref P), (1, .int (nI w))] [] σ Q
  have wy := hW.2.2.1
  obtain ⟨-, ⟨wa1, wa2⟩, we, -⟩ := hW.2.2.2.2.2.2.1 w hw
  have hc := hP4
  rcases hP4 with rfl | rfl | rfl | rfl
  all_goals
    repeat refine zA_step rfl rfl ?_
    refine zA_call rfl rfl (cl_isAlive hc hP hW hY hw (fun h => ?_) (fun h => ?_))
    · repeat refine zA_step rfl rfl ?_
      refine zA_call rfl rfl (cl_age hc hP hW hY hw ?_)
      repeat refine zA_step rfl rfl ?_
      by_cases h2 : pa p w ≤ 60
      · refine zA_f (by simp (disch := omega) only [nu_lt, nu_le, nu_eq, nu_cmp_lt, nu_cmp_gt, nu_cmp_ge, nu_cmp_le, nu_wide, Int32.toInt_add, Int32.toInt_sub, Int32.toInt_mul, nu_I, Nat.reducePow, nu_bm, Int32.reduceToInt, Int64.reduceToInt]; omega) ?_
        repeat refine zA_step rfl rfl ?_
        exact zA_ret rfl (ht ⟨h, h2⟩)
      · refine zA_t (by simp (disch := omega) only [nu_lt, nu_le, nu_eq, nu_cmp_lt, nu_cmp_gt, nu_cmp_ge, nu_cmp_le, nu_wide, Int32.toInt_add, Int32.toInt_sub, Int32.toInt_mul, nu_I, Nat.reducePow, nu_bm, Int32.reduceToInt, Int64.reduceToInt]; omega) ?_
        repeat refine zA_step rfl rfl ?_
        exact zA_ret rfl (hf (fun z => h2 z.2))
    · repeat refine zA_step rfl rfl ?_
      exact zA_ret rfl (hf (fun z => h z.1))
theorem nu_clamp (z : Int32) : (if 0 < (if z < 99 then z else 99) then (if z < 99 then z else 99) else 0) = nI (clI z.toInt) := by
  have hz := nu_rng z
  apply nu_eqI
  unfold clI
  by_cases h1 : z < 99
  · rw [if_pos h1]
    rw [nu_lt] at h1
    simp only [Int32.reduceToInt] at h1
    by_cases h2 : 0 < z
    · rw [if_pos h2]
      rw [nu_lt] at h2
      simp only [Int32.reduceToInt] at h2
      rw [if_neg (by omega), if_neg (by omega)]
      omega
    · rw [if_neg h2]
      rw [nu_lt] at h2
      simp only [Int32.reduceToInt] at h2
      by_cases h3 : z.toInt < 0
      · rw [if_pos h3]; rfl
      · rw [if_neg h3, if_neg (by omega)]
        simp only [Int32.reduceToInt]
        omega
  · rw [if_neg h1, if_pos (by decide)]
    rw [nu_lt] at h1
    simp only [Int32.reduceToInt] at h1
    rw [if_neg (by omega)]
    simp only [Int32.reduceToInt]
    split <;> omega
theorem nu_min99 (n : Nat) (h : n < 10000) : (if nI n < 99 then nI n else 99) = nI (clI (n : Int)) := by
  apply nu_eqI
  unfold clI
  by_cases h1 : n < 99
  · rw [if_pos (show nI n < 99 from (by simp (disch := omega) only [nu_lt, nu_le, nu_eq, nu_cmp_lt, nu_cmp_gt, nu_cmp_ge, nu_cmp_le, nu_wide, Int32.toInt_add, Int32.toInt_sub, Int32.toInt_mul, nu_I, Nat.reducePow, nu_bm, Int32.reduceToInt, Int64.reduceToInt]; omega)), if_neg (show ¬ (n : Int) < 0 by omega), if_neg (show ¬ 99 < (n : Int) by omega), nu_I (by omega)]
    omega
  · rw [if_neg (show ¬ nI n < 99 from (by simp (disch := omega) only [nu_lt, nu_le, nu_eq, nu_cmp_lt, nu_cmp_gt, nu_cmp_ge, nu_cmp_le, nu_wide, Int32.toInt_add, Int32.toInt_sub, Int32.toInt_mul, nu_I, Nat.reducePow, nu_bm, Int32.reduceToInt, Int64.reduceToInt]; omega)), if_neg (show ¬ (n : Int) < 0 by omega)]
    simp only [Int32.reduceToInt]
    split <;> omega
set_option maxHeartbeats 4000000 in
set_option maxRecDepth 100000 in
theorem cl_oath_lo {σ : zSo} {P w s Y : Nat} {p : paT} {q : Nat × Nat × Nat} (hP : PC σ P p) (hw : w < pw p) (hs : s < ps p) (hm : pm p w s = some q) : σ (P + 6) (6 * w + s) = nI q.1 ∧ σ (P + 7) (6 * w + s) = nI q.2.1 ∧ σ (P + 8) (6 * w + s) = nI q.2.2 := (hP.2.2.2.2.2.2 w s hw hs).2 q hm
set_option maxHeartbeats 4000000 in
set_option maxRecDepth 100000 in
theorem cl_oath {d : Nat} {σ : zSo} {Q : Option Value → zSo → Prop} {P w s Y : Nat} {p : paT} (hP4 : cP P) (hP : PC σ P p) (hW : paW p Y) (hY : Y ≤ 2000) (hw : w < pw p) (hs : s < ps p) (hQ : Q (some (.int (eO (sayO p w s)))) σ) : zC (d + 2) 36 [.ref P, .int (nI w), .int (nI s)] σ Q := by
  show zA (d + 2) _ 0 [(0, .ref P), (1, .int (nI w)), (2, .int (nI s))] [] σ Q
  have hWW := hW
  have hPC := hP
  obtain ⟨⟨wl1, wl2⟩, ⟨wd1, wd2⟩, wy, ws6, ww6, wyd, www, wmm⟩ := hW
  obtain ⟨⟨wk1, wk2⟩, ⟨wa1, wa2⟩, we, wb1, wb2⟩ := www w hw
  obtain ⟨⟨v0, v1⟩, h2, h3, h4, h5, h6, h7⟩ := hP
  obtain ⟨u0, u1, u2, u3⟩ := h6 w hw
  have b := h7 w s hw hs
  have hw6 : w < 6 := by omega
  have hs6 : s < 6 := by omega
  have hc := hP4
  cases hm : pm p w s with
  | none =>
    rw [sayO_no hm] at hQ
    have b7 := b.1 hm
    rcases hP4 with rfl | rfl | rfl | rfl
    all_goals
      repeat refine zA_step rfl rfl ?_
      refine zA_call rfl rfl (cl_placeOf hw6 hs6 ?_)
      repeat refine zA_step rfl rfl ?_
      refine zA_ld (j := 6 * w + s) rfl rfl (by omega) (by decide) b7 ?_
      repeat refine zA_step rfl rfl ?_
      refine zA_ld (j := 6 * w + s) rfl rfl (by omega) (by decide) rfl ?_
      repeat refine zA_step rfl rfl ?_
      refine zA_ld (j := w) rfl rfl (by omega) (by decide) u0 ?_
      repeat refine zA_step rfl rfl ?_
      exact zA_ret rfl hQ
  | some q =>
    obtain ⟨b6, b7, b8⟩ := b.2 q hm
    obtain ⟨m1, ⟨m2, m3⟩, m4⟩ := wmm w s hw hs _ hm
    have hLb : pl p * q.2.1 ≤ 30 * 9 := Nat.mul_le_mul wl2 m3
    have hsy := sayO_eq hm
    have nof : sayO p w s = none → Q (some (.int (-1000000))) σ := fun hn => by
      rw [hn] at hQ
      exact hQ
    have yes : ∀ y, sayO p w s = some y → ∀ x : Int32, x = nI y → Q (some (.int x)) σ := fun y hn x hx => by
      rw [hn] at hQ
      rw [hx]
      exact hQ
    have hb := nu_ofI (z := pb p w) (by omega) (by omega)
    generalize hL : pl p * q.2.1 = L at hLb hsy
    have hL2 : nI (pl p) * nI q.2.1 = nI L := by rw [pk_mul, hL]
    have e1 : nI (py p) - nI q.2.2 = nI (py p - q.2.2) := pk_sub (by omega)
    have hdv : (py p - q.2.2) / pd p ≤ py p - q.2.2 := Nat.div_le_self _ _
    have e2 := nu_tdiv (a := py p - q.2.2) (b := pd p) (by omega) (by omega) (by omega)
    have hk5 : pk p w = 1 ∨ pk p w = 2 ∨ pk p w = 3 ∨ pk p w = 4 ∨ pk p w = 5 := by omega
    by_cases c1 : py p - q.2.2 < L
    rotate_left
    · have hn : sayO p w s = none := by
        rw [hsy, if_neg]
        rintro ⟨z, -⟩
        exact c1 z
      rcases hP4 with rfl | rfl | rfl | rfl
      all_goals
        repeat refine zA_step rfl rfl ?_
        refine zA_call rfl rfl (cl_placeOf hw6 hs6 ?_)
        repeat refine zA_step rfl rfl ?_
        refine zA_ld (j := 6 * w + s) rfl rfl (by omega) (by decide) b7 ?_
        repeat refine zA_step rfl rfl ?_
        refine zA_ld (j := 6 * w + s) rfl rfl (by omega) (by decide) b8 ?_
        repeat refine zA_step rfl rfl ?_
        refine zA_ld (j := w) rfl rfl (by omega) (by decide) u0 ?_
        repeat refine zA_step rfl rfl ?_
        refine zA_f (by simp (disch := omega) only [nu_lt, nu_le, nu_eq, nu_cmp_lt, nu_cmp_gt, nu_cmp_ge, nu_cmp_le, nu_wide, Int32.toInt_add, Int32.toInt_sub, Int32.toInt_mul, nu_I, Nat.reducePow, nu_bm, Int32.reduceToInt, Int64.reduceToInt]; omega) ?_
        repeat refine zA_step rfl rfl ?_
        rw [v0, h4, hL2, e1]
        refine zA_t (by simp (disch := omega) only [nu_lt, nu_le, nu_eq, nu_cmp_lt, nu_cmp_gt, nu_cmp_ge, nu_cmp_le, nu_wide, Int32.toInt_add, Int32.toInt_sub, Int32.toInt_mul, nu_I, Nat.reducePow, nu_bm, Int32.reduceToInt, Int64.reduceToInt]; omega) ?_
        repeat refine zA_step rfl rfl ?_
        exact zA_ret rfl (nof hn)
    · by_cases ca : pa p w < pe p w
      rotate_left
      · by_cases k5 : pk p w = 5
        · rw [k5] at u0 hsy
          have hy : sayO p w s = some q.1 := by
            rw [hsy, if_pos ⟨c1, Or.inr rfl, fun z => by omega⟩]
            rfl
          rcases hP4 with rfl | rfl | rfl | rfl
          all_goals
            repeat refine zA_step rfl rfl ?_
            refine zA_call rfl rfl (cl_placeOf hw6 hs6 ?_)
            repeat refine zA_step rfl rfl ?_
            refine zA_ld (j := 6 * w + s) rfl rfl (by omega) (by decide) b7 ?_
            repeat refine zA_step rfl rfl ?_
            refine zA_ld (j := 6 * w + s) rfl rfl (by omega) (by decide) b8 ?_
            repeat refine zA_step rfl rfl ?_
            refine zA_ld (j := w) rfl rfl (by omega) (by decide) u0 ?_
            repeat refine zA_step rfl rfl ?_
            refine zA_f (by simp (disch := omega) only [nu_lt, nu_le, nu_eq, nu_cmp_lt, nu_cmp_gt, nu_cmp_ge, nu_cmp_le, nu_wide, Int32.toInt_add, Int32.toInt_sub, Int32.toInt_mul, nu_I, Nat.reducePow, nu_bm, Int32.reduceToInt, Int64.reduceToInt]; omega) ?_
            repeat refine zA_step rfl rfl ?_
            rw [v0, h4, hL2, e1]
            refine zA_f (by simp (disch := omega) only [nu_lt, nu_le, nu_eq, nu_cmp_lt, nu_cmp_gt, nu_cmp_ge, nu_cmp_le, nu_wide, Int32.toInt_add, Int32.toInt_sub, Int32.toInt_mul, nu_I, Nat.reducePow, nu_bm, Int32.reduceToInt, Int64.reduceToInt]; omega) ?_
            repeat refine zA_step rfl rfl ?_
            refine zA_ld (j := 6 * w + s) rfl rfl (by omega) (by decide) b6 ?_
            repeat refine zA_step rfl rfl ?_
            exact zA_ret rfl (yes _ hy _ rfl)
        · have hn : sayO p w s = none := by
            rw [hsy, if_neg]
            rintro ⟨-, z, -⟩
            rcases z with z | z
            · exact ca z
            · exact k5 z
          rcases hP4 with rfl | rfl | rfl | rfl
          all_goals
            repeat refine zA_step rfl rfl ?_
            refine zA_call rfl rfl (cl_placeOf hw6 hs6 ?_)
            repeat refine zA_step rfl rfl ?_
            refine zA_ld (j := 6 * w + s) rfl rfl (by omega) (by decide) b7 ?_
            repeat refine zA_step rfl rfl ?_
            refine zA_ld (j := 6 * w + s) rfl rfl (by omega) (by decide) b8 ?_
            repeat refine zA_step rfl rfl ?_
            refine zA_ld (j := w) rfl rfl (by omega) (by decide) u0 ?_
            repeat refine zA_step rfl rfl ?_
            refine zA_f (by simp (disch := omega) only [nu_lt, nu_le, nu_eq, nu_cmp_lt, nu_cmp_gt, nu_cmp_ge, nu_cmp_le, nu_wide, Int32.toInt_add, Int32.toInt_sub, Int32.toInt_mul, nu_I, Nat.reducePow, nu_bm, Int32.reduceToInt, Int64.reduceToInt]; omega) ?_
            repeat refine zA_step rfl rfl ?_
            rw [v0, h4, hL2, e1]
            refine zA_f (by simp (disch := omega) only [nu_lt, nu_le, nu_eq, nu_cmp_lt, nu_cmp_gt, nu_cmp_ge, nu_cmp_le, nu_wide, Int32.toInt_add, Int32.toInt_sub, Int32.toInt_mul, nu_I, Nat.reducePow, nu_bm, Int32.reduceToInt, Int64.reduceToInt]; omega) ?_
            repeat refine zA_step rfl rfl ?_
            refine zA_f (by simp (disch := omega) only [nu_lt, nu_le, nu_eq, nu_cmp_lt, nu_cmp_gt, nu_cmp_ge, nu_cmp_le, nu_wide, Int32.toInt_add, Int32.toInt_sub, Int32.toInt_mul, nu_I, Nat.reducePow, nu_bm, Int32.reduceToInt, Int64.reduceToInt]; omega) ?_
            repeat refine zA_step rfl rfl ?_
            refine zA_call rfl rfl (cl_isAlive hc hPC hWW hY hw (fun h => absurd h ca) (fun h => ?_))
            repeat refine zA_step rfl rfl ?_
            exact zA_ret rfl (nof hn)
      · have go : (zA (d + 2) 36 70 [(0, .ref P), (1, .int (nI w)), (2, .int (nI s)), (3, .int (nI (6 * w + s))), (4, .int (nI q.2.1)), (5, .int (nI (py p - q.2.2))), (6, .int (nI (pk p w)))] [] σ Q) → zA (d + 2) 36 0 [(0, .ref P), (1, .int (nI w)), (2, .int (nI s))] [] σ Q := by
          intro K
          rcases hP4 with rfl | rfl | rfl | rfl
          all_goals
            repeat refine zA_step rfl rfl ?_
            refine zA_call rfl rfl (cl_placeOf hw6 hs6 ?_)
            repeat refine zA_step rfl rfl ?_
            refine zA_ld (j := 6 * w + s) rfl rfl (by omega) (by decide) b7 ?_
            repeat refine zA_step rfl rfl ?_
            refine zA_ld (j := 6 * w + s) rfl rfl (by omega) (by decide) b8 ?_
            repeat refine zA_step rfl rfl ?_
            refine zA_ld (j := w) rfl rfl (by omega) (by decide) u0 ?_
            repeat refine zA_step rfl rfl ?_
            refine zA_f (by simp (disch := omega) only [nu_lt, nu_le, nu_eq, nu_cmp_lt, nu_cmp_gt, nu_cmp_ge, nu_cmp_le, nu_wide, Int32.toInt_add, Int32.toInt_sub, Int32.toInt_mul, nu_I, Nat.reducePow, nu_bm, Int32.reduceToInt, Int64.reduceToInt]; omega) ?_
            repeat refine zA_step rfl rfl ?_
            rw [v0, h4, hL2, e1]
            refine zA_f (by simp (disch := omega) only [nu_lt, nu_le, nu_eq, nu_cmp_lt, nu_cmp_gt, nu_cmp_ge, nu_cmp_le, nu_wide, Int32.toInt_add, Int32.toInt_sub, Int32.toInt_mul, nu_I, Nat.reducePow, nu_bm, Int32.reduceToInt, Int64.reduceToInt]; omega) ?_
            repeat refine zA_step rfl rfl ?_
            refine zA_c (fun k5 => K) (fun k5 => ?_)
            repeat refine zA_step rfl rfl ?_
            refine zA_call rfl rfl (cl_isAlive hc hPC hWW hY hw (fun h => ?_) (fun h => absurd ca h))
            refine zA_s0 rfl ?_
            exact K
        refine go ?_
        have hdv2 : (py p - q.2.2) / pd p < 2147483648 := by omega
        rcases hk5 with hk | hk | hk | hk | hk
        all_goals rw [hk] at hsy ⊢
        · have hy : sayO p w s = some q.1 := by
            rw [hsy, if_pos ⟨c1, Or.inl ca, fun z => by omega⟩]
            rfl
          rcases hP4 with rfl | rfl | rfl | rfl
          all_goals
            repeat refine zA_step rfl rfl ?_
            refine zA_ld (j := 6 * w + s) rfl rfl (by omega) (by decide) b6 ?_
            repeat refine zA_step rfl rfl ?_
            exact zA_ret rfl (yes _ hy _ rfl)
        · have hy : sayO p w s = some (clI (q.1 + pb p w)) := by
            rw [hsy, if_pos ⟨c1, Or.inl ca, fun z => by omega⟩]
            rfl
          have ez : (nI q.1 + Int32.ofInt (pb p w)).toInt = q.1 + pb p w := by
            rw [nu_add (by rw [nu_I (by omega), hb]; omega) (by rw [nu_I (by omega), hb]; omega), nu_I (by omega), hb]
          rcases hP4 with rfl | rfl | rfl | rfl
          all_goals
            repeat refine zA_step rfl rfl ?_
            refine zA_ld (j := 6 * w + s) rfl rfl (by omega) (by decide) b6 ?_
            repeat refine zA_step rfl rfl ?_
            refine zA_ld (j := w) rfl rfl (by omega) (by decide) u3 ?_
            repeat refine zA_step rfl rfl ?_
            refine zA_ret rfl (yes _ hy _ ?_)
            rw [nu_clamp, ez]
        · have hy : sayO p w s = some (clI ((q.1 + (py p - q.2.2) / pd p : Nat) : Int)) := by
            rw [hsy, if_pos ⟨c1, Or.inl ca, fun z => by omega⟩]
            rfl
          rcases hP4 with rfl | rfl | rfl | rfl
          all_goals
            repeat refine zA_step rfl rfl ?_
            refine zA_ld (j := 6 * w + s) rfl rfl (by omega) (by decide) b6 ?_
            repeat refine zA_step rfl rfl ?_
            rw [v1]
            refine zA_t (by simp (disch := omega) only [nu_lt, nu_le, nu_eq, nu_cmp_lt, nu_cmp_gt, nu_cmp_ge, nu_cmp_le, nu_wide, Int32.toInt_add, Int32.toInt_sub, Int32.toInt_mul, nu_I, Nat.reducePow, nu_bm, Int32.reduceToInt, Int64.reduceToInt]; omega) ?_
            repeat refine zA_step rfl rfl ?_
            rw [v1]
            refine zA_if rfl (by simp (disch := omega) only [nu_lt, nu_le, nu_eq, nu_cmp_lt, nu_cmp_gt, nu_cmp_ge, nu_cmp_le, nu_wide, Int32.toInt_add, Int32.toInt_sub, Int32.toInt_mul, nu_I, Nat.reducePow, nu_bm, Int32.reduceToInt, Int64.reduceToInt]; omega) ?_
            repeat refine zA_step rfl rfl ?_
            refine zA_ret rfl (yes _ hy _ ?_)
            rw [e2, nI_add, nu_min99 _ (by omega)]
        · by_cases c5 : q.2.1 < 5
          · have hn : sayO p w s = none := by
              rw [hsy, if_neg]
              rintro ⟨-, -, z⟩
              have := z rfl
              omega
            rcases hP4 with rfl | rfl | rfl | rfl
            all_goals
              repeat refine zA_step rfl rfl ?_
              refine zA_ld (j := 6 * w + s) rfl rfl (by omega) (by decide) b6 ?_
              repeat refine zA_step rfl rfl ?_
              refine zA_t (by simp (disch := omega) only [nu_lt, nu_le, nu_eq, nu_cmp_lt, nu_cmp_gt, nu_cmp_ge, nu_cmp_le, nu_wide, Int32.toInt_add, Int32.toInt_sub, Int32.toInt_mul, nu_I, Nat.reducePow, nu_bm, Int32.reduceToInt, Int64.reduceToInt]; omega) ?_
              repeat refine zA_step rfl rfl ?_
              exact zA_ret rfl (nof hn)
          · have hy : sayO p w s = some q.1 := by
              rw [hsy, if_pos ⟨c1, Or.inl ca, fun z => by omega⟩]
              rfl
            rcases hP4 with rfl | rfl | rfl | rfl
            all_goals
              repeat refine zA_step rfl rfl ?_
              refine zA_ld (j := 6 * w + s) rfl rfl (by omega) (by decide) b6 ?_
              repeat refine zA_step rfl rfl ?_
              refine zA_f (by simp (disch := omega) only [nu_lt, nu_le, nu_eq, nu_cmp_lt, nu_cmp_gt, nu_cmp_ge, nu_cmp_le, nu_wide, Int32.toInt_add, Int32.toInt_sub, Int32.toInt_mul, nu_I, Nat.reducePow, nu_bm, Int32.reduceToInt, Int64.reduceToInt]; omega) ?_
              repeat refine zA_step rfl rfl ?_
              exact zA_ret rfl (yes _ hy _ rfl)
        · have hy : sayO p w s = some q.1 := by
            rw [hsy, if_pos ⟨c1, Or.inl ca, fun z => by omega⟩]
            rfl
          rcases hP4 with rfl | rfl | rfl | rfl
          all_goals
            repeat refine zA_step rfl rfl ?_
            refine zA_ld (j := 6 * w + s) rfl rfl (by omega) (by decide) b6 ?_
            repeat refine zA_step rfl rfl ?_
            exact zA_ret rfl (yes _ hy _ rfl)
