/-! rows: row, drop -/
set_option maxHeartbeats 4000000 in
set_option maxRecDepth 100000 in
theorem cl_begin {d r : Nat} {σ : zSo} {Q : Option Value → zSo → Prop} {l n : Int32} (hr : r < 8)
    (hQ : ∀ σ', zFr [2 + 2 * r, 2 + 1 + 2 * r] σ σ' → σ' (2 + 2 * r) 1 = 1 → σ' (2 + 2 * r) 2 = l → σ' (2 + 2 * r) 3 = n → (∀ k, k < 40 → σ' (2 + 1 + 2 * r) k = 0) → Q none σ') : zC d 42 [.ref (2 + 2 * r), .int l, .int n] σ Q := by
  have lp : ∀ m k, k + m = 40 → ∀ σk, zFr [2 + 2 * r, 2 + 1 + 2 * r] σ σk → σk (2 + 2 * r) 1 = 1 → σk (2 + 2 * r) 2 = l → σk (2 + 2 * r) 3 = n → (∀ j, j < k → σk (2 + 1 + 2 * r) j = 0) → ∀ i : Int32, i = nI k → zA d 42 17 [(0, .ref (2 + 2 * r)), (3, .int i)] [] σk Q := by
    intro m
    induction m with
    | zero =>
      intro k hk σk hF h1 h2 h3 h4 i ei
      subst ei
      have : k = 40 := by omega
      subst this
      refine zA_s0 rfl ?_
      repeat refine zA_step rfl rfl ?_
      exact zA_ret rfl (hQ σk hF h1 h2 h3 h4)
    | succ m ih =>
      intro k hk σk hF h1 h2 h3 h4 i ei
      subst ei
      refine zA_s0 rfl ?_
      repeat refine zA_step rfl rfl ?_
      refine zA_f (by simp (disch := omega) only [nu_lt, nu_le, nu_eq, nu_cmp_lt, nu_cmp_gt, nu_cmp_ge, nu_cmp_le, nu_wide, Int32.toInt_add, Int32.toInt_sub, Int32.toInt_mul, nu_I, Nat.reducePow, nu_bm, Int32.reduceToInt, Int64.reduceToInt]; omega) ?_
      have go : zA d 42 17 [(0, .ref (2 + 2 * r)), (3, .int (nI k + 1))] [] (zup σk (2 + 1 + 2 * r) k 0) Q := by
        refine ih (k + 1) (by omega) _ (hF.up (by simp)) ?_ ?_ ?_ (fun j hj => ?_) _ (nI_1 k)
        · rw [zup_o _ _ _ (by omega)]; exact h1
        · rw [zup_o _ _ _ (by omega)]; exact h2
        · rw [zup_o _ _ _ (by omega)]; exact h3
        · rw [zup_k]
          simp only [upd]
          by_cases e : j = k
          · rw [if_pos e]
          · rw [if_neg e]; exact h4 j (by omega)
      rcases (show r = 0 ∨ r = 1 ∨ r = 2 ∨ r = 3 ∨ r = 4 ∨ r = 5 ∨ r = 6 ∨ r = 7 by omega) with rfl | rfl | rfl | rfl | rfl | rfl | rfl | rfl
      all_goals
        repeat refine zA_step rfl rfl ?_
        refine zA_sto (j := k) rfl rfl (by omega) (by decide) ?_
        repeat refine zA_step rfl rfl ?_
        exact go
  show zA d _ 0 [(0, .ref (2 + 2 * r)), (1, .int l), (2, .int n)] [] σ Q
  have go : ∀ σ2, σ2 = zup (zup (zup σ (2 + 2 * r) 1 1) (2 + 2 * r) 2 l) (2 + 2 * r) 3 n → zA d 42 17 [(0, .ref (2 + 2 * r)), (3, .int 0)] [] σ2 Q := by
    intro σ2 e
    subst e
    refine lp 40 0 (by omega) _ (((zFr.rf.up (by simp)).up (by simp)).up (by simp)) ?_ ?_ ?_ (fun j hj => by omega) 0 rfl
    · simp [zup_k, upd]
    · simp [zup_k, upd]
    · simp [zup_k, upd]
  rcases (show r = 0 ∨ r = 1 ∨ r = 2 ∨ r = 3 ∨ r = 4 ∨ r = 5 ∨ r = 6 ∨ r = 7 by omega) with rfl | rfl | rfl | rfl | rfl | rfl | rfl | rfl
  all_goals
    repeat refine zA_step rfl rfl ?_
    refine zA_dr rfl rfl rfl ?_
    exact go _ rfl
set_option maxHeartbeats 4000000 in
set_option maxRecDepth 100000 in
theorem mo_row_lp {d r : Nat} {σ : zSo} {Q : Option Value → zSo → Prop} {n : Int32} (hr : r < 8)
    (hQ : ∀ σ', zFr [73] σ σ' → (∀ k, k < 40 → σ' 73 (40 * r + k) = 0) → (∀ j, (j < 40 * r ∨ 40 * r + 40 ≤ j) → σ' 73 j = σ 73 j) → Q (some (.int n)) σ') : zA d 110 65 [(0, .ref 70), (1, .int (nI r)), (3, .int n), (4, .int 0)] [] σ Q := by
  have lp : ∀ m k, k + m = 40 → ∀ σk, zFr [73] σ σk → (∀ j, j < k → σk 73 (40 * r + j) = 0) → (∀ j, (j < 40 * r ∨ 40 * r + 40 ≤ j) → σk 73 j = σ 73 j) → ∀ i : Int32, i = nI k → zA d 110 65 [(0, .ref 70), (1, .int (nI r)), (3, .int n), (4, .int i)] [] σk Q := by
    intro m
    induction m with
    | zero =>
      intro k hk σk hF h1 h2 i ei
      subst ei
      have : k = 40 := by omega
      subst this
      refine zA_s0 rfl ?_
      repeat refine zA_step rfl rfl ?_
      exact zA_ret rfl (hQ σk hF h1 h2)
    | succ m ih =>
      intro k hk σk hF h1 h2 i ei
      subst ei
      refine zA_s0 rfl ?_
      repeat refine zA_step rfl rfl ?_
      refine zA_f (by simp (disch := omega) only [nu_lt, nu_le, nu_eq, nu_cmp_lt, nu_cmp_gt, nu_cmp_ge, nu_cmp_le, nu_wide, Int32.toInt_add, Int32.toInt_sub, Int32.toInt_mul, nu_I, Nat.reducePow, nu_bm, Int32.reduceToInt, Int64.reduceToInt]; omega) ?_
      repeat refine zA_step rfl rfl ?_
      refine zA_sto (j := 40 * r + k) rfl (by rw [nu_eq]; simp (disch := omega) only [Int32.toInt_add, Int32.toInt_sub, Int32.toInt_mul, nu_I, Nat.reducePow, nu_bm, Int32.reduceToInt, Int64.reduceToInt]; omega) (by omega) (by decide) ?_
      repeat refine zA_step rfl rfl ?_
      refine ih (k + 1) (by omega) _ (hF.up (by simp)) (fun j hj => ?_) (fun j hj => ?_) _ (nI_1 k)
      · rw [zup_k]
        simp only [upd]
        by_cases e : j = k
        · rw [if_pos (by omega)]
        · rw [if_neg (by omega)]; exact h1 j (by omega)
      · rw [zup_k]
        simp only [upd]
        rw [if_neg (by omega)]
        exact h2 j hj
  exact lp 40 0 (by omega) σ zFr.rf (fun j hj => by omega) (fun j _ => rfl) 0 rfl
set_option maxHeartbeats 4000000 in
set_option maxRecDepth 100000 in
theorem pr_row {d : Nat} {σ : zSo} (a l n : Int32) (hR : R σ) : zPair (d + 20) 58 110 [.int a, .int l, .int n] σ := by
  have bad : ¬ ((0 ≤ a.toInt ∧ a.toInt < 8) ∧ (0 ≤ l.toInt ∧ l.toInt ≤ 2) ∧ n.toInt ≤ 40) → zC (d + 20) 110 [.ref 70, .int a, .int l, .int n] σ (fun r2 σ2 => r2 = some (.int (-1000001)) ∧ R σ2 ∧ ∀ k, 1000 ≤ k → σ2 k = σ k) := by
    intro hn
    have hk : zK σ (zup σ 70 0 0) := zK.rf.up rfl
    show zA (d + 20) _ 0 [(0, .ref 70), (1, .int a), (2, .int l), (3, .int n)] [] σ _
    repeat refine zA_step rfl rfl ?_
    refine zA_call rfl rfl (mo_isRow (fun r hr e => ?_) (fun h => ?_))
    · subst e
      rw [nu_I (by omega)] at hn
      repeat refine zA_step rfl rfl ?_
      refine zA_call rfl rfl (mo_inI 0 2 (by decide) (by decide) (fun h1 h2 => ?_) (fun h1 => ?_))
      · repeat refine zA_step rfl rfl ?_
        refine zA_c (fun c => ?_) (fun c => ?_)
        · rw [nu_le] at c
          simp only [Int32.reduceToInt] at c
          exact absurd ⟨⟨by omega, by omega⟩, ⟨h1, h2⟩, c⟩ hn
        · repeat refine zA_step rfl rfl ?_
          exact zA_ret rfl ⟨rfl, hR.kp hk⟩
      · repeat refine zA_step rfl rfl ?_
        exact zA_ret rfl ⟨rfl, hR.kp hk⟩
    · repeat refine zA_step rfl rfl ?_
      exact zA_ret rfl ⟨rfl, hR.kp hk⟩
  show zA (d + 20) _ 0 [(0, .ref 0), (1, .int a), (2, .int l), (3, .int n)] [] σ _
  repeat refine zA_step rfl rfl ?_
  refine zA_call rfl rfl (cl_isRow (fun h1 h2 => ?_) (fun h => ?_))
  rotate_left
  · repeat refine zA_step rfl rfl ?_
    exact zA_ret rfl ⟨_, rfl, bad (by omega)⟩
  repeat refine zA_step rfl rfl ?_
  refine zA_c (fun c1 => ?_) (fun c1 => ?_)
  all_goals simp only [nu_lt, Int32.reduceToInt] at c1
  · repeat refine zA_step rfl rfl ?_
    exact zA_ret rfl ⟨_, rfl, bad (by omega)⟩
  repeat refine zA_step rfl rfl ?_
  refine zA_c (fun c2 => ?_) (fun c2 => ?_)
  all_goals simp only [nu_le, Int32.reduceToInt] at c2
  · repeat refine zA_step rfl rfl ?_
    exact zA_ret rfl ⟨_, rfl, bad (by omega)⟩
  repeat refine zA_step rfl rfl ?_
  refine zA_c (fun c3 => ?_) (fun c3 => ?_)
  all_goals simp only [nu_le, Int32.reduceToInt] at c3
  rotate_left
  · repeat refine zA_step rfl rfl ?_
    exact zA_ret rfl ⟨_, rfl, bad (by omega)⟩
  obtain ⟨r, hr, e⟩ := nu_of (n := 8) (x := a) h1 (by omega)
  obtain ⟨l', hl, e2⟩ := nu_of (n := 3) (x := l) (by omega) (by omega)
  subst e e2
  rw [nu_I (by omega)] at h1 h2
  have tomod : ∀ σ1 (Q : Option Value → zSo → Prop), zA (d + 20) 110 33 [(0, .ref 70), (1, .int (nI r)), (2, .int (nI l')), (3, .int n)] [] (zup σ1 70 0 0) Q → zC (d + 20) 110 [.ref 70, .int (nI r), .int (nI l'), .int n] σ1 Q := by
    intro σ1 Q K
    show zA (d + 20) _ 0 [(0, .ref 70), (1, .int (nI r)), (2, .int (nI l')), (3, .int n)] [] σ1 _
    repeat refine zA_step rfl rfl ?_
    refine zA_call rfl rfl (mo_isRow (fun r hr e => ?_) (fun h => ?_))
    · repeat refine zA_step rfl rfl ?_
      refine zA_call rfl rfl (mo_inI 0 2 (by decide) (by decide) (fun h1 h2 => ?_) (fun h1 => ?_))
      · repeat refine zA_step rfl rfl ?_
        refine zA_t (by rw [nu_le]; exact c3) ?_
        exact K
      · rw [nu_I (by omega)] at h1
        exact absurd ⟨by omega, by omega⟩ h1
    · rw [nu_I (by omega)] at h
      exact absurd ⟨by omega, by omega⟩ h
  repeat refine zA_step rfl rfl ?_
  refine zA_c (fun c4 => ?_) (fun c4 => ?_)
  all_goals simp only [nu_le, Int32.reduceToInt] at c4
  rotate_left
  · repeat refine zA_step rfl rfl ?_
    refine zA_call rfl rfl (cl_finding ?_)
    refine zA_ret rfl ⟨_, rfl, tomod _ _ ?_⟩
    repeat refine zA_step rfl rfl ?_
    refine zA_f (by rw [nu_le]; exact c4) ?_
    repeat refine zA_step rfl rfl ?_
    refine zA_call rfl rfl (mo_finding ?_)
    exact zA_ret rfl ⟨rfl, hR.st ((((zKg.rf.up rfl).up rfl).up rfl).up rfl) rfl⟩
  · obtain ⟨n', hn, e⟩ := nu_of (n := 41) (x := n) (by omega) (by omega)
    subst e
    have fin : ∀ σ1, zFr [2 + 2 * r, 2 + 1 + 2 * r] σ σ1 → σ1 (2 + 2 * r) 1 = 1 → σ1 (2 + 2 * r) 2 = nI l' → σ1 (2 + 2 * r) 3 = nI n' → (∀ k, k < 40 → σ1 (2 + 1 + 2 * r) k = 0) → zC (d + 20) 110 [.ref 70, .int (nI r), .int (nI l'), .int (nI n')] (zup σ1 0 8 0) (fun r2 σ2 => r2 = some (.int (nI n')) ∧ R σ2 ∧ ∀ k, 1000 ≤ k → σ2 k = σ k) := by
      intro σ1 hF t1 t2 t3 t4
      refine tomod _ _ ?_
      repeat refine zA_step rfl rfl ?_
      refine zA_t (by rw [nu_le]; exact c4) ?_
      repeat refine zA_step rfl rfl ?_
      refine zA_sto (j := r) rfl rfl (by omega) (by decide) ?_
      repeat refine zA_step rfl rfl ?_
      refine zA_sto (j := r) rfl rfl (by omega) (by decide) ?_
      repeat refine zA_step rfl rfl ?_
      refine zA_dr rfl rfl rfl ?_
      refine mo_row_lp hr (fun σ' hF' h1' h2' => ⟨rfl, hR.rows ((((((zKg.rf.fr hF (zrw_row hr)).up rfl).up rfl).up rfl).up rfl).up rfl |>.fr hF' (zrw_1 fun _ => rfl)) (fun r' hr' => ?_) ?_⟩)
      · have q0 : ∀ k, k < 18 → 1 < k → ∀ j, σ' k j = σ1 k j := fun k c1 c2 j => by
          rw [hF' k (by simp; omega), zup_o _ _ _ (by omega), zup_o _ _ _ (by omega), zup_o _ _ _ (by omega), zup_o _ _ _ (by omega), zup_o _ _ _ (by omega)]
        have q1 : ∀ j, σ' 71 j = if j = r then nI l' else σ 71 j := fun j => by
          rw [hF' 71 (by decide), zup_o _ _ _ (by decide), zup_k]
          show (if j = r then nI l' else σ1 71 j) = _
          rw [hF 71 (by simp; omega)]
        have q2 : ∀ j, σ' 72 j = if j = r then nI n' else σ 72 j := fun j => by
          rw [hF' 72 (by decide), zup_k]
          show (if j = r then nI n' else σ1 72 j) = _
          rw [hF 72 (by simp; omega)]
        by_cases e : r' = r
        · subst e
          refine Or.inr ⟨l', n', hl, by omega, ?_, ?_, ?_, ?_, ?_, fun k hk => ?_⟩
          · rw [q0 _ (by omega) (by omega)]; exact t1
          · rw [q0 _ (by omega) (by omega)]; exact t2
          · rw [q0 _ (by omega) (by omega)]; exact t3
          · rw [q1, if_pos rfl]
          · rw [q2, if_pos rfl]
          · rw [q0 _ (by omega) (by omega), t4 k hk, h1' k hk]
        · refine (hR.1 r' hr').kp (funext fun j => ?_) (funext fun j => ?_) ?_ ?_ (fun k hk => ?_)
          · rw [q0 _ (by omega) (by omega), hF _ (by simp; omega)]
          · rw [q0 _ (by omega) (by omega), hF _ (by simp; omega)]
          · rw [q1, if_neg e]
          · rw [q2, if_neg e]
          · rw [h2' _ (by omega)]
            show σ1 73 _ = _
            rw [hF 73 (by simp; omega)]
      · rw [hF' 0 (by decide), hF' 70 (by decide)]
        rfl
    rcases (show r = 0 ∨ r = 1 ∨ r = 2 ∨ r = 3 ∨ r = 4 ∨ r = 5 ∨ r = 6 ∨ r = 7 by omega) with rfl | rfl | rfl | rfl | rfl | rfl | rfl | rfl
    all_goals
      repeat refine zA_step rfl rfl ?_
      refine zA_call rfl rfl (cl_begin hr (fun σ1 hF t1 t2 t3 t4 => ?_))
      repeat refine zA_step rfl rfl ?_
      refine zA_call rfl rfl (cl_fine ?_)
      exact zA_ret rfl ⟨_, rfl, fin σ1 hF t1 t2 t3 t4⟩
