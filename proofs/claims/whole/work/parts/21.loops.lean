/-! loops that gather bits -/
theorem bn_f0 {p : Nat → Bool} {n : Nat} (h : p n = false) : bn p (n + 1) = bn p n := by rw [bn, h]; simp
/-- alive; can be taken; stones that a witness swears to -/
def alb (p : paT) : Nat → Bool := fun w => decide (pa p w < pe p w)
def tkb (p : paT) : Nat → Bool := fun w => decide (pa p w < pe p w ∧ pa p w ≤ 60)
def stb (p : paT) (w : Nat) : Nat → Bool := fun s => (sayO p w s).isSome

set_option maxHeartbeats 4000000 in
set_option maxRecDepth 100000 in
theorem cl_living {d P Y : Nat} {σ : zSo} {Q : Option Value → zSo → Prop} {p : paT} (hP4 : cP P) (hP : PC σ P p) (hW : paW p Y) (hY : Y ≤ 2000) (hQ : Q (some (.int (nI (bn (alb p) (pw p))))) σ) : zC (d + 2) 33 [.ref P] σ Q := by
  have ww6 := hW.2.2.2.2.1
  have ws6 := hW.2.2.2.1
  have hlim : σ P 5 = nI (pw p) := hP.2.2.1
  have hc := hP4
  have lp : ∀ n k, k + n = pw p → ∀ (x i : Int32), x = nI (bn (alb p) k) → i = nI k → zA (d + 2) 33 4 [(0, .ref P), (1, .int x), (2, .int i)] [] σ Q := by
    intro n
    induction n with
    | zero =>
      intro k hk x i ex ei
      subst ex ei
      have : k = pw p := by omega
      subst this
      rcases hP4 with rfl | rfl | rfl | rfl
      all_goals
        refine zA_s0 rfl ?_
        repeat refine zA_step rfl rfl ?_
        rw [hlim]
        refine zA_t (Int32.le_refl _) ?_
        repeat refine zA_step rfl rfl ?_
        exact zA_ret rfl hQ
    | succ n ih =>
      intro k hk x i ex ei
      subst ex ei
      rcases hP4 with rfl | rfl | rfl | rfl
      all_goals
        refine zA_s0 rfl ?_
        repeat refine zA_step rfl rfl ?_
        rw [hlim]
        refine zA_f (by simp (disch := omega) only [nu_lt, nu_le, nu_eq, nu_cmp_lt, nu_cmp_gt, nu_cmp_ge, nu_cmp_le, nu_wide, Int32.toInt_add, Int32.toInt_sub, Int32.toInt_mul, nu_I, Nat.reducePow, nu_bm, Int32.reduceToInt, Int64.reduceToInt]; omega) ?_
        repeat refine zA_step rfl rfl ?_
        refine zA_call rfl rfl (cl_isAlive hc hP hW hY (by omega) (fun h => ?_) (fun h => ?_))
        · repeat refine zA_step rfl rfl ?_
          exact ih (k + 1) (by omega) _ _ (by rw [nu_shl k (by omega)]; exact bn_t (by simp [alb, h])) (nI_1 k)
        · repeat refine zA_step rfl rfl ?_
          exact ih (k + 1) (by omega) _ _ (by rw [bn_f0 (by simp [alb, h])]) (nI_1 k)
  show zA (d + 2) _ 0 [(0, .ref P)] [] σ Q
  have l0 := lp (pw p) 0 (by omega) 0 0 rfl rfl
  rcases hP4 with rfl | rfl | rfl | rfl
  all_goals
    repeat refine zA_step rfl rfl ?_
    exact l0
set_option maxHeartbeats 4000000 in
set_option maxRecDepth 100000 in
theorem cl_takable {d P Y : Nat} {σ : zSo} {Q : Option Value → zSo → Prop} {p : paT} (hP4 : cP P) (hP : PC σ P p) (hW : paW p Y) (hY : Y ≤ 2000) (hQ : Q (some (.int (nI (bn (tkb p) (pw p))))) σ) : zC (d + 3) 34 [.ref P] σ Q := by
  have ww6 := hW.2.2.2.2.1
  have ws6 := hW.2.2.2.1
  have hlim : σ P 5 = nI (pw p) := hP.2.2.1
  have hc := hP4
  have lp : ∀ n k, k + n = pw p → ∀ (x i : Int32), x = nI (bn (tkb p) k) → i = nI k → zA (d + 3) 34 4 [(0, .ref P), (1, .int x), (2, .int i)] [] σ Q := by
    intro n
    induction n with
    | zero =>
      intro k hk x i ex ei
      subst ex ei
      have : k = pw p := by omega
      subst this
      rcases hP4 with rfl | rfl | rfl | rfl
      all_goals
        refine zA_s0 rfl ?_
        repeat refine zA_step rfl rfl ?_
        rw [hlim]
        refine zA_t (Int32.le_refl _) ?_
        repeat refine zA_step rfl rfl ?_
        exact zA_ret rfl hQ
    | succ n ih =>
      intro k hk x i ex ei
      subst ex ei
      rcases hP4 with rfl | rfl | rfl | rfl
      all_goals
        refine zA_s0 rfl ?_
        repeat refine zA_step rfl rfl ?_
        rw [hlim]
        refine zA_f (by simp (disch := omega) only [nu_lt, nu_le, nu_eq, nu_cmp_lt, nu_cmp_gt, nu_cmp_ge, nu_cmp_le, nu_wide, Int32.toInt_add, Int32.toInt_sub, Int32.toInt_mul, nu_I, Nat.reducePow, nu_bm, Int32.reduceToInt, Int64.reduceToInt]; omega) ?_
        repeat refine zA_step rfl rfl ?_
        refine zA_call rfl rfl (cl_isTakable hc hP hW hY (by omega) (fun h => ?_) (fun h => ?_))
        · repeat refine zA_step rfl rfl ?_
          exact ih (k + 1) (by omega) _ _ (by rw [nu_shl k (by omega)]; exact bn_t (by simp [tkb, h])) (nI_1 k)
        · repeat refine zA_step rfl rfl ?_
          exact ih (k + 1) (by omega) _ _ (by rw [bn_f0 (by simp [tkb, h])]) (nI_1 k)
  show zA (d + 3) _ 0 [(0, .ref P)] [] σ Q
  have l0 := lp (pw p) 0 (by omega) 0 0 rfl rfl
  rcases hP4 with rfl | rfl | rfl | rfl
  all_goals
    repeat refine zA_step rfl rfl ?_
    exact l0
set_option maxHeartbeats 4000000 in
set_option maxRecDepth 100000 in
theorem cl_stonesSwornBy {d P Y w : Nat} {σ : zSo} {Q : Option Value → zSo → Prop} {p : paT} (hP4 : cP P) (hP : PC σ P p) (hW : paW p Y) (hY : Y ≤ 2000) (hw : w < pw p) (hQ : Q (some (.int (nI (bn (stb p w) (ps p))))) σ) : zC (d + 3) 37 [.ref P, .int (nI w)] σ Q := by
  have ww6 := hW.2.2.2.2.1
  have ws6 := hW.2.2.2.1
  have hlim : σ P 4 = nI (ps p) := hP.2.1
  have hc := hP4
  have lp : ∀ n k, k + n = ps p → ∀ (x i : Int32), x = nI (bn (stb p w) k) → i = nI k → zA (d + 3) 37 4 [(0, .ref P), (1, .int (nI w)), (2, .int x), (3, .int i)] [] σ Q := by
    intro n
    induction n with
    | zero =>
      intro k hk x i ex ei
      subst ex ei
      have : k = ps p := by omega
      subst this
      rcases hP4 with rfl | rfl | rfl | rfl
      all_goals
        refine zA_s0 rfl ?_
        repeat refine zA_step rfl rfl ?_
        rw [hlim]
        refine zA_t (Int32.le_refl _) ?_
        repeat refine zA_step rfl rfl ?_
        exact zA_ret rfl hQ
    | succ n ih =>
      intro k hk x i ex ei
      subst ex ei
      rcases hP4 with rfl | rfl | rfl | rfl
      all_goals
        refine zA_s0 rfl ?_
        repeat refine zA_step rfl rfl ?_
        rw [hlim]
        refine zA_f (by simp (disch := omega) only [nu_lt, nu_le, nu_eq, nu_cmp_lt, nu_cmp_gt, nu_cmp_ge, nu_cmp_le, nu_wide, Int32.toInt_add, Int32.toInt_sub, Int32.toInt_mul, nu_I, Nat.reducePow, nu_bm, Int32.reduceToInt, Int64.reduceToInt]; omega) ?_
        repeat refine zA_step rfl rfl ?_
        refine zA_call rfl rfl (cl_oath hc hP hW hY hw (by omega) ?_)
        repeat refine zA_step rfl rfl ?_
        cases hb : stb p w k with
        | false =>
          refine zA_t ((eO_dec hW hw (by omega)).mpr hb) ?_
          repeat refine zA_step rfl rfl ?_
          exact ih (k + 1) (by omega) _ _ (by rw [bn_f0 hb]) (nI_1 k)
        | true =>
          refine zA_f (fun z => by have hz : stb p w k = false := (eO_dec hW hw (by omega)).mp z; rw [hz] at hb; cases hb) ?_
          repeat refine zA_step rfl rfl ?_
          exact ih (k + 1) (by omega) _ _ (by rw [nu_shl k (by omega)]; exact bn_t hb) (nI_1 k)
  show zA (d + 3) _ 0 [(0, .ref P), (1, .int (nI w))] [] σ Q
  have l0 := lp (ps p) 0 (by omega) 0 0 rfl rfl
  rcases hP4 with rfl | rfl | rfl | rfl
  all_goals
    repeat refine zA_step rfl rfl ?_
    exact l0
set_option maxHeartbeats 4000000 in
set_option maxRecDepth 100000 in
theorem cl_swearersTo {d P Y s : Nat} {σ : zSo} {Q : Option Value → zSo → Prop} {p : paT} (hP4 : cP P) (hP : PC σ P p) (hW : paW p Y) (hY : Y ≤ 2000) (hs : s < ps p) (hQ : Q (some (.int (nI (bn (swb p s) (pw p))))) σ) : zC (d + 3) 38 [.ref P, .int (nI s)] σ Q := by
  have ww6 := hW.2.2.2.2.1
  have ws6 := hW.2.2.2.1
  have hlim : σ P 5 = nI (pw p) := hP.2.2.1
  have hc := hP4
  have lp : ∀ n k, k + n = pw p → ∀ (x i : Int32), x = nI (bn (swb p s) k) → i = nI k → zA (d + 3) 38 4 [(0, .ref P), (1, .int (nI s)), (2, .int x), (3, .int i)] [] σ Q := by
    intro n
    induction n with
    | zero =>
      intro k hk x i ex ei
      subst ex ei
      have : k = pw p := by omega
      subst this
      rcases hP4 with rfl | rfl | rfl | rfl
      all_goals
        refine zA_s0 rfl ?_
        repeat refine zA_step rfl rfl ?_
        rw [hlim]
        refine zA_t (Int32.le_refl _) ?_
        repeat refine zA_step rfl rfl ?_
        exact zA_ret rfl hQ
    | succ n ih =>
      intro k hk x i ex ei
      subst ex ei
      rcases hP4 with rfl | rfl | rfl | rfl
      all_goals
        refine zA_s0 rfl ?_
        repeat refine zA_step rfl rfl ?_
        rw [hlim]
        refine zA_f (by simp (disch := omega) only [nu_lt, nu_le, nu_eq, nu_cmp_lt, nu_cmp_gt, nu_cmp_ge, nu_cmp_le, nu_wide, Int32.toInt_add, Int32.toInt_sub, Int32.toInt_mul, nu_I, Nat.reducePow, nu_bm, Int32.reduceToInt, Int64.reduceToInt]; omega) ?_
        repeat refine zA_step rfl rfl ?_
        refine zA_call rfl rfl (cl_oath hc hP hW hY (by omega) hs ?_)
        repeat refine zA_step rfl rfl ?_
        cases hb : swb p s k with
        | false =>
          refine zA_t ((eO_dec hW (by omega) hs).mpr hb) ?_
          repeat refine zA_step rfl rfl ?_
          exact ih (k + 1) (by omega) _ _ (by rw [bn_f0 hb]) (nI_1 k)
        | true =>
          refine zA_f (fun z => by have hz : swb p s k = false := (eO_dec hW (by omega) hs).mp z; rw [hz] at hb; cases hb) ?_
          repeat refine zA_step rfl rfl ?_
          exact ih (k + 1) (by omega) _ _ (by rw [nu_shl k (by omega)]; exact bn_t hb) (nI_1 k)
  show zA (d + 3) _ 0 [(0, .ref P), (1, .int (nI s))] [] σ Q
  have l0 := lp (pw p) 0 (by omega) 0 0 rfl rfl
  rcases hP4 with rfl | rfl | rfl | rfl
  all_goals
    repeat refine zA_step rfl rfl ?_
    exact l0
set_option maxHeartbeats 4000000 in
set_option maxRecDepth 100000 in
theorem mo_alive {d Y : Nat} {σ : zSo} {Q : Option Value → zSo → Prop} {p : paT} (hP : PM (σ 74) p) (hW : paW p Y) (hY : Y ≤ 2000) (hQ : Q (some (.int (nI (bn (alb p) (pw p))))) σ) : zC (d + 2) 148 [.ref 70] σ Q := by
  have ww6 := hW.2.2.2.2.1
  have ws6 := hW.2.2.2.1
  have wy := hW.2.2.1
  have hmr : mR 74 := Or.inl rfl
  have hlim : σ 74 3 = nI (pw p) := hP.2.2.1
  have lp : ∀ n k, k + n = pw p → ∀ (x i : Int32), x = nI (bn (alb p) k) → i = nI k → zA (d + 2) 148 4 [(0, .ref 70), (1, .int x), (2, .int i)] [] σ Q := by
    intro n
    induction n with
    | zero =>
      intro k hk x i ex ei
      subst ex ei
      have : k = pw p := by omega
      subst this
      refine zA_s0 rfl ?_
      repeat refine zA_step rfl rfl ?_
      simp only [nu_c3, hlim]
      refine zA_t (Int32.le_refl _) ?_
      repeat refine zA_step rfl rfl ?_
      exact zA_ret rfl hQ
    | succ n ih =>
      intro k hk x i ex ei
      subst ex ei
      refine zA_s0 rfl ?_
      repeat refine zA_step rfl rfl ?_
      simp only [nu_c3, hlim]
      refine zA_f (by simp (disch := omega) only [nu_lt, nu_le, nu_eq, nu_cmp_lt, nu_cmp_gt, nu_cmp_ge, nu_cmp_le, nu_wide, Int32.toInt_add, Int32.toInt_sub, Int32.toInt_mul, nu_I, Nat.reducePow, nu_bm, Int32.reduceToInt, Int64.reduceToInt]; omega) ?_
      repeat refine zA_step rfl rfl ?_
      have hkl : k < pw p := by omega
      obtain ⟨-, ⟨wa1, wa2⟩, we, -⟩ := hW.2.2.2.2.2.2.1 k hkl
      refine zA_call rfl rfl (mo_isAlive hmr (by omega) (hP.2.2.2.2.2.1 k hkl).2.1 (hP.2.2.2.2.2.1 k hkl).2.2.1 (by omega) (by omega) (fun h => ?_) (fun h => ?_))
      · repeat refine zA_step rfl rfl ?_
        exact ih (k + 1) (by omega) _ _ (by rw [nu_shl k (by omega)]; exact bn_t (by simp [alb, h])) (nI_1 k)
      · repeat refine zA_step rfl rfl ?_
        exact ih (k + 1) (by omega) _ _ (bn_f (by simp [alb, h])) (nI_1 k)
  show zA (d + 2) _ 0 [(0, .ref 70)] [] σ Q
  repeat refine zA_step rfl rfl ?_
  exact lp (pw p) 0 (by omega) 0 0 rfl rfl
set_option maxHeartbeats 4000000 in
set_option maxRecDepth 100000 in
theorem mo_takeable {d Y : Nat} {σ : zSo} {Q : Option Value → zSo → Prop} {p : paT} (hP : PM (σ 74) p) (hW : paW p Y) (hY : Y ≤ 2000) (hQ : Q (some (.int (nI (bn (tkb p) (pw p))))) σ) : zC (d + 3) 162 [.ref 70] σ Q := by
  have ww6 := hW.2.2.2.2.1
  have ws6 := hW.2.2.2.1
  have wy := hW.2.2.1
  have hmr : mR 74 := Or.inl rfl
  have hlim : σ 74 3 = nI (pw p) := hP.2.2.1
  have lp : ∀ n k, k + n = pw p → ∀ (x i : Int32), x = nI (bn (tkb p) k) → i = nI k → zA (d + 3) 162 4 [(0, .ref 70), (1, .int x), (2, .int i)] [] σ Q := by
    intro n
    induction n with
    | zero =>
      intro k hk x i ex ei
      subst ex ei
      have : k = pw p := by omega
      subst this
      refine zA_s0 rfl ?_
      repeat refine zA_step rfl rfl ?_
      simp only [nu_c3, hlim]
      refine zA_t (Int32.le_refl _) ?_
      repeat refine zA_step rfl rfl ?_
      exact zA_ret rfl hQ
    | succ n ih =>
      intro k hk x i ex ei
      subst ex ei
      refine zA_s0 rfl ?_
      repeat refine zA_step rfl rfl ?_
      simp only [nu_c3, hlim]
      refine zA_f (by simp (disch := omega) only [nu_lt, nu_le, nu_eq, nu_cmp_lt, nu_cmp_gt, nu_cmp_ge, nu_cmp_le, nu_wide, Int32.toInt_add, Int32.toInt_sub, Int32.toInt_mul, nu_I, Nat.reducePow, nu_bm, Int32.reduceToInt, Int64.reduceToInt]; omega) ?_
      repeat refine zA_step rfl rfl ?_
      have hkl : k < pw p := by omega
      obtain ⟨-, ⟨wa1, wa2⟩, we, -⟩ := hW.2.2.2.2.2.2.1 k hkl
      refine zA_call rfl rfl (mo_isTaken hmr (by omega) (hP.2.2.2.2.2.1 k hkl).2.1 (hP.2.2.2.2.2.1 k hkl).2.2.1 (by omega) (by omega) (fun h => ?_) (fun h => ?_))
      · repeat refine zA_step rfl rfl ?_
        exact ih (k + 1) (by omega) _ _ (by rw [nu_shl k (by omega)]; exact bn_t (by simp [tkb, h])) (nI_1 k)
      · repeat refine zA_step rfl rfl ?_
        exact ih (k + 1) (by omega) _ _ (bn_f (by simp [tkb, h])) (nI_1 k)
  show zA (d + 3) _ 0 [(0, .ref 70)] [] σ Q
  repeat refine zA_step rfl rfl ?_
  exact lp (pw p) 0 (by omega) 0 0 rfl rfl
set_option maxHeartbeats 4000000 in
set_option maxRecDepth 100000 in
theorem mo_stonesOf {d Y w : Nat} {σ : zSo} {Q : Option Value → zSo → Prop} {p : paT} (hP : PM (σ 74) p) (hW : paW p Y) (hY : Y ≤ 2000) (hw : w < pw p) (hQ : Q (some (.int (nI (bn (stb p w) (ps p))))) σ) : zC (d + 3) 151 [.ref 70, .int (nI w)] σ Q := by
  have ww6 := hW.2.2.2.2.1
  have ws6 := hW.2.2.2.1
  have wy := hW.2.2.1
  have hmr : mR 74 := Or.inl rfl
  have hlim : σ 74 2 = nI (ps p) := hP.2.1
  have lp : ∀ n k, k + n = ps p → ∀ (x i : Int32), x = nI (bn (stb p w) k) → i = nI k → zA (d + 3) 151 4 [(0, .ref 70), (1, .int (nI w)), (2, .int x), (3, .int i)] [] σ Q := by
    intro n
    induction n with
    | zero =>
      intro k hk x i ex ei
      subst ex ei
      have : k = ps p := by omega
      subst this
      refine zA_s0 rfl ?_
      repeat refine zA_step rfl rfl ?_
      simp only [nu_c2, hlim]
      refine zA_t (Int32.le_refl _) ?_
      repeat refine zA_step rfl rfl ?_
      exact zA_ret rfl hQ
    | succ n ih =>
      intro k hk x i ex ei
      subst ex ei
      refine zA_s0 rfl ?_
      repeat refine zA_step rfl rfl ?_
      simp only [nu_c2, hlim]
      refine zA_f (by simp (disch := omega) only [nu_lt, nu_le, nu_eq, nu_cmp_lt, nu_cmp_gt, nu_cmp_ge, nu_cmp_le, nu_wide, Int32.toInt_add, Int32.toInt_sub, Int32.toInt_mul, nu_I, Nat.reducePow, nu_bm, Int32.reduceToInt, Int64.reduceToInt]; omega) ?_
      repeat refine zA_step rfl rfl ?_
      have hkl : k < ps p := by omega

      refine zA_call rfl rfl (mo_says hmr hP hW hY hw (by omega) ?_)
      repeat refine zA_step rfl rfl ?_
      cases hb : stb p w k with
      | false =>
        refine zA_t ((eO_dec hW hw (by omega)).mpr hb) ?_
        repeat refine zA_step rfl rfl ?_
        exact ih (k + 1) (by omega) _ _ (bn_f hb) (nI_1 k)
      | true =>
        refine zA_f (fun z => by have hz : stb p w k = false := (eO_dec hW hw (by omega)).mp z; rw [hz] at hb; cases hb) ?_
        repeat refine zA_step rfl rfl ?_
        exact ih (k + 1) (by omega) _ _ (by rw [nu_shl k (by omega)]; exact bn_t hb) (nI_1 k)
  show zA (d + 3) _ 0 [(0, .ref 70), (1, .int (nI w))] [] σ Q
  repeat refine zA_step rfl rfl ?_
  exact lp (ps p) 0 (by omega) 0 0 rfl rfl
