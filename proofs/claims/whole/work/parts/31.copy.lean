/-! rows: copy -/
/-- what stands in the items when m of them, those that 'don' tells, have come -/
def cpd (f : Nat → Int32) (s t : Nat) (don : Nat → Prop) [DecidablePred don] : Nat → Int32 := fun x => if t ≤ x ∧ don (x - t) then f (s + (x - t)) else f x
set_option maxHeartbeats 4000000 in
set_option maxRecDepth 100000 in
theorem mo_copy_lp {d a b i j n : Nat} {σ : zSo} {Q : Option Value → zSo → Prop} (ha : a < 8) (hb : b < 8) (hi : i + n ≤ 40) (hj : j + n ≤ 40) (u : Nat) (hu : (u = 1 ∧ j ≤ i) ∨ (u = 0 ∧ i < j))
    (hQ : ∀ σ', zFr [73] σ σ' → (∀ x, σ' 73 x = if 40 * b + j ≤ x ∧ x < 40 * b + j + n then σ 73 (40 * a + i + (x - (40 * b + j))) else σ 73 x) → Q (some (.int (nI n))) σ') :
    zA d 112 143 [(0, .ref 70), (1, .int (nI a)), (2, .int (nI i)), (3, .int (nI b)), (4, .int (nI j)), (5, .int (nI n)), (6, .int (nI u)), (7, .int 0)] [] σ Q := by
  have lp : ∀ m k, k + m = n → ∀ σk, zFr [73] σ σk → (∀ x, σk 73 x = if 40 * b + j ≤ x ∧ (u = 1 ∧ x < 40 * b + j + k ∨ u = 0 ∧ x < 40 * b + j + n ∧ 40 * b + j + n ≤ x + k) then σ 73 (40 * a + i + (x - (40 * b + j))) else σ 73 x) → ∀ q : Int32, q = nI k →
      zA d 112 143 [(0, .ref 70), (1, .int (nI a)), (2, .int (nI i)), (3, .int (nI b)), (4, .int (nI j)), (5, .int (nI n)), (6, .int (nI u)), (7, .int q)] [] σk Q := by
    intro m
    induction m with
    | zero =>
      intro k hk σk hF h1 q eq
      subst eq
      have : k = n := by omega
      subst this
      refine zA_s0 rfl ?_
      repeat refine zA_step rfl rfl ?_
      refine zA_t (Int32.le_refl _) ?_
      repeat refine zA_step rfl rfl ?_
      refine zA_ret rfl (hQ σk hF (fun x => ?_))
      rw [h1 x]
      by_cases e : 40 * b + j ≤ x ∧ x < 40 * b + j + k
      · rw [if_pos e, if_pos (by omega)]
      · rw [if_neg e, if_neg (by omega)]
    | succ m ih =>
      intro k hk σk hF h1 q eq
      subst eq
      refine zA_s0 rfl ?_
      repeat refine zA_step rfl rfl ?_
      refine zA_f (by simp (disch := omega) only [nu_lt, nu_le, nu_eq, nu_cmp_lt, nu_cmp_gt, nu_cmp_ge, nu_cmp_le, nu_wide, Int32.toInt_add, Int32.toInt_sub, Int32.toInt_mul, nu_I, Nat.reducePow, nu_bm, Int32.reduceToInt, Int64.reduceToInt]; omega) ?_
      repeat refine zA_step rfl rfl ?_
      rcases hu with ⟨rfl, hu⟩ | ⟨rfl, hu⟩
      · repeat refine zA_step rfl rfl ?_
        have hv : σk 73 (40 * a + i + k) = σ 73 (40 * a + i + k) := by
          rw [h1, if_neg (by omega)]
        refine zA_ld (j := 40 * a + i + k) rfl (by rw [nu_eq]; simp (disch := omega) only [Int32.toInt_add, Int32.toInt_sub, Int32.toInt_mul, nu_I, Nat.reducePow, nu_bm, Int32.reduceToInt, Int64.reduceToInt]; omega) (by omega) (by decide) hv ?_
        refine zA_sto (j := 40 * b + j + k) rfl (by rw [nu_eq]; simp (disch := omega) only [Int32.toInt_add, Int32.toInt_sub, Int32.toInt_mul, nu_I, Nat.reducePow, nu_bm, Int32.reduceToInt, Int64.reduceToInt]; omega) (by omega) (by decide) ?_
        repeat refine zA_step rfl rfl ?_
        refine zA_dr rfl rfl rfl ?_
        refine ih (k + 1) (by omega) _ (hF.up (by simp)) (fun x => ?_) _ (nI_1 k)
        rw [zup_k]
        simp only [upd]
        by_cases e : x = 40 * b + j + k
        · rw [if_pos e, if_pos (by first | exact ⟨by omega, Or.inl ⟨rfl, by omega⟩⟩ | exact ⟨by omega, Or.inl ⟨trivial, by omega⟩⟩)]
          congr 1
          omega
        · rw [if_neg e, h1 x]
          by_cases e2 : 40 * b + j ≤ x ∧ x < 40 * b + j + k
          · rw [if_pos (by first | exact ⟨by omega, Or.inl ⟨rfl, by omega⟩⟩ | exact ⟨by omega, Or.inl ⟨trivial, by omega⟩⟩), if_pos (by first | exact ⟨by omega, Or.inl ⟨rfl, by omega⟩⟩ | exact ⟨by omega, Or.inl ⟨trivial, by omega⟩⟩)]
          · rw [if_neg (by omega), if_neg (by omega)]
      · repeat refine zA_step rfl rfl ?_
        have hv : σk 73 (40 * a + i + (n - 1 - k)) = σ 73 (40 * a + i + (n - 1 - k)) := by
          rw [h1, if_neg (by omega)]
        refine zA_ld (j := 40 * a + i + (n - 1 - k)) rfl (by rw [nu_eq]; simp (disch := omega) only [Int32.toInt_add, Int32.toInt_sub, Int32.toInt_mul, nu_I, Nat.reducePow, nu_bm, Int32.reduceToInt, Int64.reduceToInt]; omega) (by omega) (by decide) hv ?_
        refine zA_sto (j := 40 * b + j + (n - 1 - k)) rfl (by rw [nu_eq]; simp (disch := omega) only [Int32.toInt_add, Int32.toInt_sub, Int32.toInt_mul, nu_I, Nat.reducePow, nu_bm, Int32.reduceToInt, Int64.reduceToInt]; omega) (by omega) (by decide) ?_
        repeat refine zA_step rfl rfl ?_
        refine zA_dr rfl rfl rfl ?_
        refine ih (k + 1) (by omega) _ (hF.up (by simp)) (fun x => ?_) _ (nI_1 k)
        rw [zup_k]
        simp only [upd]
        by_cases e : x = 40 * b + j + (n - 1 - k)
        · rw [if_pos e, if_pos (by first | exact ⟨by omega, Or.inr ⟨rfl, by omega, by omega⟩⟩ | exact ⟨by omega, Or.inr ⟨trivial, by omega, by omega⟩⟩)]
          congr 1
          omega
        · rw [if_neg e, h1 x]
          by_cases e2 : x < 40 * b + j + n ∧ 40 * b + j + n ≤ x + k
          · rw [if_pos (by first | exact ⟨by omega, Or.inr ⟨rfl, by omega, by omega⟩⟩ | exact ⟨by omega, Or.inr ⟨trivial, by omega, by omega⟩⟩), if_pos (by first | exact ⟨by omega, Or.inr ⟨rfl, by omega, by omega⟩⟩ | exact ⟨by omega, Or.inr ⟨trivial, by omega, by omega⟩⟩)]
          · rw [if_neg (by omega), if_neg (by omega)]
  exact lp n 0 (by omega) σ zFr.rf (fun x => by rw [if_neg (by omega)]) 0 rfl
theorem nu_ladd {x y : Int32} : (x.toInt64 + y.toInt64).toInt = x.toInt + y.toInt := by
  have h1 := nu_rng x
  have h2 := nu_rng y
  rw [Int64.toInt_add, nu_wide, nu_wide]
  exact nu_bmL (by omega) (by omega)
set_option maxHeartbeats 4000000 in
set_option maxRecDepth 100000 in
theorem pr_copy {d : Nat} {σ : zSo} (a i b j n : Int32) (hR : R σ) : zPair (d + 20) 60 112 [.int a, .int i, .int b, .int j, .int n] σ := by
  have bad : ¬ ((0 ≤ a.toInt ∧ a.toInt < 8) ∧ (0 ≤ b.toInt ∧ b.toInt < 8)) → zC (d + 20) 112 [.ref 70, .int a, .int i, .int b, .int j, .int n] σ (fun r2 σ2 => r2 = some (.int (-1000001)) ∧ R σ2 ∧ ∀ k, 1000 ≤ k → σ2 k = σ k) := by
    intro hn
    have hk : zK σ (zup σ 70 0 0) := zK.rf.up rfl
    show zA (d + 20) _ 0 [(0, .ref 70), (1, .int a), (2, .int i), (3, .int b), (4, .int j), (5, .int n)] [] σ _
    repeat refine zA_step rfl rfl ?_
    refine zA_call rfl rfl (mo_isRow (fun r hr e => ?_) (fun h => ?_))
    · subst e
      rw [nu_I (by omega)] at hn
      repeat refine zA_step rfl rfl ?_
      refine zA_call rfl rfl (mo_isRow (fun r hr e => ?_) (fun h => ?_))
      · subst e
        rw [nu_I (by omega)] at hn
        exact absurd ⟨⟨by omega, by omega⟩, ⟨by omega, by omega⟩⟩ hn
      · repeat refine zA_step rfl rfl ?_
        exact zA_ret rfl ⟨rfl, hR.kp hk⟩
    · repeat refine zA_step rfl rfl ?_
      exact zA_ret rfl ⟨rfl, hR.kp hk⟩
  show zA (d + 20) _ 0 [(0, .ref 0), (1, .int a), (2, .int i), (3, .int b), (4, .int j), (5, .int n)] [] σ _
  repeat refine zA_step rfl rfl ?_
  refine zA_call rfl rfl (cl_isRow (fun h1 h2 => ?_) (fun h => ?_))
  rotate_left
  · repeat refine zA_step rfl rfl ?_
    exact zA_ret rfl ⟨_, rfl, bad (by omega)⟩
  repeat refine zA_step rfl rfl ?_
  refine zA_call rfl rfl (cl_isRow (fun h3 h4 => ?_) (fun h => ?_))
  rotate_left
  · repeat refine zA_step rfl rfl ?_
    exact zA_ret rfl ⟨_, rfl, bad (by omega)⟩
  obtain ⟨a', ha, e⟩ := nu_of (n := 8) (x := a) h1 (by omega)
  obtain ⟨b', hb, e2⟩ := nu_of (n := 8) (x := b) h3 (by omega)
  subst e e2
  have tomod : ∀ σ1 (Q : Option Value → zSo → Prop), zA (d + 20) 112 22 [(0, .ref 70), (1, .int (nI a')), (2, .int i), (3, .int (nI b')), (4, .int j), (5, .int n)] [] (zup σ1 70 0 0) Q → zC (d + 20) 112 [.ref 70, .int (nI a'), .int i, .int (nI b'), .int j, .int n] σ1 Q := by
    intro σ1 Q K
    show zA (d + 20) _ 0 [(0, .ref 70), (1, .int (nI a')), (2, .int i), (3, .int (nI b')), (4, .int j), (5, .int n)] [] σ1 _
    repeat refine zA_step rfl rfl ?_
    refine zA_call rfl rfl (mo_row_in (jm := 0) (pcg := 0) (pcb := 0) ha ?_)
    repeat refine zA_step rfl rfl ?_
    refine zA_call rfl rfl (mo_row_in (jm := 0) (pcg := 0) (pcb := 0) hb ?_)
    refine zA_s0 rfl ?_
    exact K
  have hra := hR.1 a' ha
  have hrb := hR.1 b' hb
  -- a finding
  have fnd : ∀ (x : Int32) (K : (zA (d + 20) 112 22 [(0, .ref 70), (1, .int (nI a')), (2, .int i), (3, .int (nI b')), (4, .int j), (5, .int n)] [] (zup (zup σ 0 8 x) 70 0 0) (fun r2 σ2 => r2 = some (.int (-1000010 - x)) ∧ R σ2 ∧ ∀ k, 1000 ≤ k → σ2 k = σ k))),
      zC (d + 20) 112 [.ref 70, .int (nI a'), .int i, .int (nI b'), .int j, .int n] (zup σ 0 8 x) (fun r2 σ2 => r2 = some (.int (-1000010 - x)) ∧ R σ2 ∧ ∀ k, 1000 ≤ k → σ2 k = σ k) := fun x K => tomod _ _ K
  have fin1 : (σ 71 a' = -1 ∨ σ 71 b' = -1) → (∃ l, l < 3 ∧ σ 71 a' = nI l) ∨ σ 71 a' = -1 → zC (d + 20) 112 [.ref 70, .int (nI a'), .int i, .int (nI b'), .int j, .int n] (zup σ 0 8 1) (fun r2 σ2 => r2 = some (.int (-1000011)) ∧ R σ2 ∧ ∀ k, 1000 ≤ k → σ2 k = σ k) := by
    intro hn hl
    refine fnd 1 ?_
    repeat refine zA_step rfl rfl ?_
    rcases hl with ⟨l, hl, hl2⟩ | hl
    · have hn : σ 71 b' = -1 := by
        rcases hn with hn | hn
        · rw [hl2, nu_eq, nu_I (by omega)] at hn
          simp only [Int32.reduceToInt] at hn
          omega
        · exact hn
      refine zA_ld (j := a') rfl rfl (by omega) (by decide) hl2 ?_
      repeat refine zA_step rfl rfl ?_
      refine zA_f (by simp (disch := omega) only [nu_lt, nu_le, nu_eq, nu_cmp_lt, nu_cmp_gt, nu_cmp_ge, nu_cmp_le, nu_wide, Int32.toInt_add, Int32.toInt_sub, Int32.toInt_mul, nu_I, Nat.reducePow, nu_bm, Int32.reduceToInt, Int64.reduceToInt]; omega) ?_
      repeat refine zA_step rfl rfl ?_
      refine zA_ld (j := b') rfl rfl (by omega) (by decide) hn ?_
      repeat refine zA_step rfl rfl ?_
      refine zA_call rfl rfl (mo_finding ?_)
      exact zA_ret rfl ⟨rfl, hR.st ((((zKg.rf.up rfl).up rfl).up rfl).up rfl) rfl⟩
    · refine zA_ld (j := a') rfl rfl (by omega) (by decide) hl ?_
      repeat refine zA_step rfl rfl ?_
      refine zA_call rfl rfl (mo_finding ?_)
      exact zA_ret rfl ⟨rfl, hR.st ((((zKg.rf.up rfl).up rfl).up rfl).up rfl) rfl⟩
  rcases hra with ⟨ta0, ma0⟩ | ⟨la, na, hla, hna, ta1, ta2, ta3, ma1, ma2, ma3⟩
  · have f := fin1 (Or.inl ma0) (Or.inr ma0)
    rcases nu_row8 ha with rfl | rfl | rfl | rfl | rfl | rfl | rfl | rfl
    all_goals
      rcases nu_row8 hb with rfl | rfl | rfl | rfl | rfl | rfl | rfl | rfl
      all_goals
        repeat refine zA_step rfl rfl ?_
        refine zA_t ta0 ?_
        repeat refine zA_step rfl rfl ?_
        refine zA_call rfl rfl (cl_finding ?_)
        exact zA_ret rfl ⟨_, rfl, f⟩
  rcases hrb with ⟨tb0, mb0⟩ | ⟨lb, nb, hlb, hnb, tb1, tb2, tb3, mb1, mb2, mb3⟩
  · have f := fin1 (Or.inr mb0) (Or.inl ⟨la, hla, ma1⟩)
    have hno : ¬ (σ (2 + 2 * a') 1 = 0) := by rw [ta1]; decide
    rcases nu_row8 ha with rfl | rfl | rfl | rfl | rfl | rfl | rfl | rfl
    all_goals
      rcases nu_row8 hb with rfl | rfl | rfl | rfl | rfl | rfl | rfl | rfl
      all_goals
        repeat refine zA_step rfl rfl ?_
        refine zA_f hno ?_
        repeat refine zA_step rfl rfl ?_
        refine zA_t tb0 ?_
        repeat refine zA_step rfl rfl ?_
        refine zA_call rfl rfl (cl_finding ?_)
        exact zA_ret rfl ⟨_, rfl, f⟩
  have hnoa : ¬ (σ (2 + 2 * a') 1 = 0) := by rw [ta1]; decide
  have hnob : ¬ (σ (2 + 2 * b') 1 = 0) := by rw [tb1]; decide
  by_cases hll : la = lb
  rotate_left
  · have f : zC (d + 20) 112 [.ref 70, .int (nI a'), .int i, .int (nI b'), .int j, .int n] (zup σ 0 8 5) (fun r2 σ2 => r2 = some (.int (-1000015)) ∧ R σ2 ∧ ∀ k, 1000 ≤ k → σ2 k = σ k) := by
      refine fnd 5 ?_
      repeat refine zA_step rfl rfl ?_
      refine zA_ld (j := a') rfl rfl (by omega) (by decide) ma1 ?_
      repeat refine zA_step rfl rfl ?_
      refine zA_f (by simp (disch := omega) only [nu_lt, nu_le, nu_eq, nu_cmp_lt, nu_cmp_gt, nu_cmp_ge, nu_cmp_le, nu_wide, Int32.toInt_add, Int32.toInt_sub, Int32.toInt_mul, nu_I, Nat.reducePow, nu_bm, Int32.reduceToInt, Int64.reduceToInt]; omega) ?_
      repeat refine zA_step rfl rfl ?_
      refine zA_ld (j := b') rfl rfl (by omega) (by decide) mb1 ?_
      repeat refine zA_step rfl rfl ?_
      refine zA_t (by simp (disch := omega) only [nu_lt, nu_le, nu_eq, nu_cmp_lt, nu_cmp_gt, nu_cmp_ge, nu_cmp_le, nu_wide, Int32.toInt_add, Int32.toInt_sub, Int32.toInt_mul, nu_I, Nat.reducePow, nu_bm, Int32.reduceToInt, Int64.reduceToInt]; omega) ?_
      repeat refine zA_step rfl rfl ?_
      refine zA_ld (j := a') rfl rfl (by omega) (by decide) ma1 ?_
      repeat refine zA_step rfl rfl ?_
      refine zA_ld (j := b') rfl rfl (by omega) (by decide) mb1 ?_
      repeat refine zA_step rfl rfl ?_
      refine zA_f (by simp (disch := omega) only [nu_lt, nu_le, nu_eq, nu_cmp_lt, nu_cmp_gt, nu_cmp_ge, nu_cmp_le, nu_wide, Int32.toInt_add, Int32.toInt_sub, Int32.toInt_mul, nu_I, Nat.reducePow, nu_bm, Int32.reduceToInt, Int64.reduceToInt]; omega) ?_
      repeat refine zA_step rfl rfl ?_
      refine zA_call rfl rfl (mo_finding ?_)
      exact zA_ret rfl ⟨rfl, hR.st ((((zKg.rf.up rfl).up rfl).up rfl).up rfl) rfl⟩
    have hne : ¬ (σ (2 + 2 * a') 2 = σ (2 + 2 * b') 2) := by
      rw [ta2, tb2]
      exact (by simp (disch := omega) only [nu_lt, nu_le, nu_eq, nu_cmp_lt, nu_cmp_gt, nu_cmp_ge, nu_cmp_le, nu_wide, Int32.toInt_add, Int32.toInt_sub, Int32.toInt_mul, nu_I, Nat.reducePow, nu_bm, Int32.reduceToInt, Int64.reduceToInt]; omega)
    rcases nu_row8 ha with rfl | rfl | rfl | rfl | rfl | rfl | rfl | rfl
    all_goals
      rcases nu_row8 hb with rfl | rfl | rfl | rfl | rfl | rfl | rfl | rfl
      all_goals
        repeat refine zA_step rfl rfl ?_
        refine zA_f hnoa ?_
        repeat refine zA_step rfl rfl ?_
        refine zA_f hnob ?_
        repeat refine zA_step rfl rfl ?_
        refine zA_f hne ?_
        repeat refine zA_step rfl rfl ?_
        refine zA_call rfl rfl (cl_finding ?_)
        exact zA_ret rfl ⟨_, rfl, f⟩
  subst hll
  have hle : σ (2 + 2 * a') 2 = σ (2 + 2 * b') 2 := by rw [ta2, tb2]
  -- the reference up to its checks of places
  have tom2 : ∀ σ1 (Q : Option Value → zSo → Prop), σ1 71 = σ 71 → zA (d + 20) 112 72 [(0, .ref 70), (1, .int (nI a')), (2, .int i), (3, .int (nI b')), (4, .int j), (5, .int n)] [] (zup (zup σ1 70 0 0) 70 1 0) Q → zC (d + 20) 112 [.ref 70, .int (nI a'), .int i, .int (nI b'), .int j, .int n] σ1 Q := by
    intro σ1 Q hl1 K
    have ma1' : σ1 71 a' = nI la := by rw [hl1]; exact ma1
    have mb1' : σ1 71 b' = nI la := by rw [hl1]; exact mb1
    refine tomod _ _ ?_
    repeat refine zA_step rfl rfl ?_
    refine zA_ld (j := a') rfl rfl (by omega) (by decide) ma1' ?_
    repeat refine zA_step rfl rfl ?_
    refine zA_f (by simp (disch := omega) only [nu_lt, nu_le, nu_eq, nu_cmp_lt, nu_cmp_gt, nu_cmp_ge, nu_cmp_le, nu_wide, Int32.toInt_add, Int32.toInt_sub, Int32.toInt_mul, nu_I, Nat.reducePow, nu_bm, Int32.reduceToInt, Int64.reduceToInt]; omega) ?_
    repeat refine zA_step rfl rfl ?_
    refine zA_ld (j := b') rfl rfl (by omega) (by decide) mb1' ?_
    repeat refine zA_step rfl rfl ?_
    refine zA_t (by simp (disch := omega) only [nu_lt, nu_le, nu_eq, nu_cmp_lt, nu_cmp_gt, nu_cmp_ge, nu_cmp_le, nu_wide, Int32.toInt_add, Int32.toInt_sub, Int32.toInt_mul, nu_I, Nat.reducePow, nu_bm, Int32.reduceToInt, Int64.reduceToInt]; omega) ?_
    repeat refine zA_step rfl rfl ?_
    refine zA_ld (j := a') rfl rfl (by omega) (by decide) ma1' ?_
    repeat refine zA_step rfl rfl ?_
    refine zA_ld (j := b') rfl rfl (by omega) (by decide) mb1' ?_
    repeat refine zA_step rfl rfl ?_
    refine zA_t rfl ?_
    exact K
  have f2 : ¬ (0 ≤ i.toInt ∧ 0 ≤ j.toInt ∧ 0 ≤ n.toInt ∧ i.toInt + n.toInt ≤ na ∧ j.toInt + n.toInt ≤ nb) → zC (d + 20) 112 [.ref 70, .int (nI a'), .int i, .int (nI b'), .int j, .int n] (zup σ 0 8 2) (fun r2 σ2 => r2 = some (.int (-1000012)) ∧ R σ2 ∧ ∀ k, 1000 ≤ k → σ2 k = σ k) := by
    intro hn
    refine tom2 _ _ rfl ?_
    have f : zA (d + 20) 112 121 [(0, .ref 70), (1, .int (nI a')), (2, .int i), (3, .int (nI b')), (4, .int j), (5, .int n)] [] (zup (zup (zup σ 0 8 2) 70 0 0) 70 1 0) (fun r2 σ2 => r2 = some (.int (-1000012)) ∧ R σ2 ∧ ∀ k, 1000 ≤ k → σ2 k = σ k) := by
      repeat refine zA_step rfl rfl ?_
      refine zA_call rfl rfl (mo_finding ?_)
      exact zA_ret rfl ⟨rfl, hR.st ((((zKg.rf.up rfl).up rfl).up rfl).up rfl) rfl⟩
    repeat refine zA_step rfl rfl ?_
    refine zA_c (fun c1 => f) (fun c1 => ?_)
    repeat refine zA_step rfl rfl ?_
    refine zA_c (fun c2 => f) (fun c2 => ?_)
    repeat refine zA_step rfl rfl ?_
    refine zA_c (fun c3 => f) (fun c3 => ?_)
    repeat refine zA_step rfl rfl ?_
    refine zA_ld (j := a') rfl rfl (by omega) (by decide) ma2 ?_
    repeat refine zA_step rfl rfl ?_
    refine zA_c (fun c4 => f) (fun c4 => ?_)
    repeat refine zA_step rfl rfl ?_
    refine zA_ld (j := b') rfl rfl (by omega) (by decide) mb2 ?_
    repeat refine zA_step rfl rfl ?_
    refine zA_c (fun c5 => ?_) (fun c5 => f)
    simp only [nu_lt, Int32.reduceToInt] at c1 c2 c3
    rw [nu_cmp_gt, nu_ladd, nu_wide, nu_I (by omega)] at c4
    rw [nu_cmp_le, nu_ladd, nu_wide, nu_I (by omega)] at c5
    exact absurd ⟨by omega, by omega, by omega, by omega, by omega⟩ hn
  have f3 : ∀ i' j' n', i = nI i' → j = nI j' → n = nI n' → i' + n' ≤ na → j' + n' ≤ nb → zC (d + 20) 112 [.ref 70, .int (nI a'), .int i, .int (nI b'), .int j, .int n] (zup (zcp σ (2 + 1 + 2 * a') (2 + 1 + 2 * b') i' j' n') 0 8 0) (fun r2 σ2 => r2 = some (.int n) ∧ R σ2 ∧ ∀ k, 1000 ≤ k → σ2 k = σ k) := by
    intro i' j' n' ei ej en hi hj
    subst ei ej en
    generalize hσ1 : zup (zcp σ (2 + 1 + 2 * a') (2 + 1 + 2 * b') i' j' n') 0 8 0 = σ1
    have o1 : ∀ k, k ≠ 0 → k ≠ 2 + 1 + 2 * b' → σ1 k = σ k := by
      intro k k1 k2
      subst hσ1
      rw [zup_o _ _ _ k1, zcp_o _ _ _ _ k2]
    have ma2' : σ1 72 a' = nI na := by rw [o1 _ (by decide) (by omega)]; exact ma2
    have mb2' : σ1 72 b' = nI nb := by rw [o1 _ (by decide) (by omega)]; exact mb2
    refine tom2 _ _ (o1 _ (by decide) (by omega)) ?_
    repeat refine zA_step rfl rfl ?_
    refine zA_f (by simp (disch := omega) only [nu_lt, nu_le, nu_eq, nu_cmp_lt, nu_cmp_gt, nu_cmp_ge, nu_cmp_le, nu_wide, Int32.toInt_add, Int32.toInt_sub, Int32.toInt_mul, nu_I, Nat.reducePow, nu_bm, Int32.reduceToInt, Int64.reduceToInt]; omega) ?_
    repeat refine zA_step rfl rfl ?_
    refine zA_f (by simp (disch := omega) only [nu_lt, nu_le, nu_eq, nu_cmp_lt, nu_cmp_gt, nu_cmp_ge, nu_cmp_le, nu_wide, Int32.toInt_add, Int32.toInt_sub, Int32.toInt_mul, nu_I, Nat.reducePow, nu_bm, Int32.reduceToInt, Int64.reduceToInt]; omega) ?_
    repeat refine zA_step rfl rfl ?_
    refine zA_f (by simp (disch := omega) only [nu_lt, nu_le, nu_eq, nu_cmp_lt, nu_cmp_gt, nu_cmp_ge, nu_cmp_le, nu_wide, Int32.toInt_add, Int32.toInt_sub, Int32.toInt_mul, nu_I, Nat.reducePow, nu_bm, Int32.reduceToInt, Int64.reduceToInt]; omega) ?_
    repeat refine zA_step rfl rfl ?_
    refine zA_ld (j := a') rfl rfl (by omega) (by decide) ma2' ?_
    repeat refine zA_step rfl rfl ?_
    refine zA_f (by rw [nu_cmp_gt, nu_ladd, nu_wide, nu_I (by omega), nu_I (by omega), nu_I (by omega)]; omega) ?_
    repeat refine zA_step rfl rfl ?_
    refine zA_ld (j := b') rfl rfl (by omega) (by decide) mb2' ?_
    repeat refine zA_step rfl rfl ?_
    refine zA_t (by rw [nu_cmp_le, nu_ladd, nu_wide, nu_I (by omega), nu_I (by omega), nu_I (by omega)]; omega) ?_
    repeat refine zA_step rfl rfl ?_
    have go : ∀ u, ((u = 1 ∧ j' ≤ i') ∨ (u = 0 ∧ i' < j')) → zA (d + 20) 112 143 [(0, .ref 70), (1, .int (nI a')), (2, .int (nI i')), (3, .int (nI b')), (4, .int (nI j')), (5, .int (nI n')), (6, .int (nI u)), (7, .int 0)] [] (zup (zup σ1 70 0 0) 70 1 0) (fun r2 σ2 => r2 = some (.int (nI n')) ∧ R σ2 ∧ ∀ k, 1000 ≤ k → σ2 k = σ k) := by
      intro u hu
      refine mo_copy_lp ha hb (by omega) (by omega) u hu (fun σ' hF hx => ⟨rfl, ?_⟩)
      have hxx : ∀ x, σ' 73 x = if 40 * b' + j' ≤ x ∧ x < 40 * b' + j' + n' then σ 73 (40 * a' + i' + (x - (40 * b' + j'))) else σ 73 x := by
        intro x
        have h9 := hx x
        rw [zup_o _ _ _ (by decide), zup_o _ _ _ (by decide), o1 _ (by decide) (by omega)] at h9
        exact h9
      have o2 : ∀ k, k ≠ 0 → k ≠ 2 + 1 + 2 * b' → k ≠ 70 → k ≠ 73 → σ' k = σ k := by
        intro k k1 k2 k3 k4
        rw [hF k (by simpa using k4), zup_o _ _ _ k3, zup_o _ _ _ k3, o1 k k1 k2]
      have hz : zKg zrw σ σ1 := by
        subst hσ1
        refine zKg.up (fun k j hk => ?_) rfl
        rw [zcp_o]
        intro e
        rw [e, zrw_row hb _ (by simp) j] at hk
        cases hk
      refine hR.rows (((hz.up rfl).up rfl).fr hF (zrw_1 fun _ => rfl)) (fun r' hr' => ?_) ?_
      · by_cases e : r' = b'
        · subst e
          refine Or.inr ⟨la, nb, hla, hnb, ?_, ?_, ?_, ?_, ?_, fun k hk => ?_⟩
          · rw [o2 _ (by omega) (by omega) (by omega) (by omega)]; exact tb1
          · rw [o2 _ (by omega) (by omega) (by omega) (by omega)]; exact tb2
          · rw [o2 _ (by omega) (by omega) (by omega) (by omega)]; exact tb3
          · rw [o2 _ (by omega) (by omega) (by omega) (by omega)]; exact mb1
          · rw [o2 _ (by omega) (by omega) (by omega) (by omega)]; exact mb2
          · rw [hxx]
            have h8 : σ' (2 + 1 + 2 * r') k = va_cpy (σ (2 + 1 + 2 * a')) (σ (2 + 1 + 2 * r')) i' j' n' k := by
              rw [hF _ (by simp; omega), zup_o _ _ _ (by omega), zup_o _ _ _ (by omega)]
              subst hσ1
              rw [zup_o _ _ _ (by omega), zcp_k]
            rw [h8]
            simp only [va_cpy]
            by_cases e : j' ≤ k ∧ k < j' + n'
            · rw [if_pos e, if_pos (by omega), ma3 _ (by omega)]
              congr 1
              omega
            · rw [if_neg e, if_neg (by omega), mb3 k hk]
        · refine (hR.1 r' hr').kp ?_ ?_ ?_ ?_ (fun k hk => ?_)
          · rw [o2 _ (by omega) (by omega) (by omega) (by omega)]
          · rw [o2 _ (by omega) (by omega) (by omega) (by omega)]
          · rw [o2 _ (by omega) (by omega) (by omega) (by omega)]
          · rw [o2 _ (by omega) (by omega) (by omega) (by omega)]
          · rw [hxx, if_neg (by omega)]
      · rw [hF 0 (by decide), hF 70 (by decide)]
        subst hσ1
        rfl
    by_cases hu : j' ≤ i'
    · refine zA_f (by simp (disch := omega) only [nu_lt, nu_le, nu_eq, nu_cmp_lt, nu_cmp_gt, nu_cmp_ge, nu_cmp_le, nu_wide, Int32.toInt_add, Int32.toInt_sub, Int32.toInt_mul, nu_I, Nat.reducePow, nu_bm, Int32.reduceToInt, Int64.reduceToInt]; omega) ?_
      repeat refine zA_step rfl rfl ?_
      exact go 1 (Or.inl ⟨rfl, hu⟩)
    · refine zA_t (by simp (disch := omega) only [nu_lt, nu_le, nu_eq, nu_cmp_lt, nu_cmp_gt, nu_cmp_ge, nu_cmp_le, nu_wide, Int32.toInt_add, Int32.toInt_sub, Int32.toInt_mul, nu_I, Nat.reducePow, nu_bm, Int32.reduceToInt, Int64.reduceToInt]; omega) ?_
      repeat refine zA_step rfl rfl ?_
      exact go 0 (Or.inr ⟨rfl, by omega⟩)
  rcases nu_row8 ha with rfl | rfl | rfl | rfl | rfl | rfl | rfl | rfl
  all_goals
    rcases nu_row8 hb with rfl | rfl | rfl | rfl | rfl | rfl | rfl | rfl
    all_goals
      repeat refine zA_step rfl rfl ?_
      refine zA_f hnoa ?_
      repeat refine zA_step rfl rfl ?_
      refine zA_f hnob ?_
      repeat refine zA_step rfl rfl ?_
      refine zA_t hle ?_
      repeat refine zA_step rfl rfl ?_
      refine zA_call rfl rfl (cl_holds ha hna ta3 (fun z1 z2 z3 => ?_) (fun z => ?_))
      rotate_left
      · repeat refine zA_step rfl rfl ?_
        refine zA_call rfl rfl (cl_finding ?_)
        exact zA_ret rfl ⟨_, rfl, f2 (by omega)⟩
      repeat refine zA_step rfl rfl ?_
      refine zA_call rfl rfl (cl_holds hb hnb tb3 (fun y1 y2 y3 => ?_) (fun z => ?_))
      rotate_left
      · repeat refine zA_step rfl rfl ?_
        refine zA_call rfl rfl (cl_finding ?_)
        exact zA_ret rfl ⟨_, rfl, f2 (by omega)⟩
      obtain ⟨i', hi', ei⟩ := nu_of (n := 41) (x := i) z1 (by omega)
      obtain ⟨j', hj', ej⟩ := nu_of (n := 41) (x := j) y1 (by omega)
      obtain ⟨n', hn', en⟩ := nu_of (n := 41) (x := n) z2 (by omega)
      have f4 := f3 i' j' n' ei ej en (by rw [ei, en, nu_I (by omega), nu_I (by omega)] at z3; omega) (by rw [ej, en, nu_I (by omega), nu_I (by omega)] at y3; omega)
      subst ei ej en
      rw [nu_I (by omega), nu_I (by omega)] at z3 y3
      repeat refine zA_step rfl rfl ?_
      refine zA_if rfl ⟨nI_pos (by omega), nI_pos (by omega), nI_pos (by omega), by rw [nI_clamp (by omega), nI_clamp (by omega)]; omega, by rw [nI_clamp (by omega), nI_clamp (by omega)]; omega⟩ ?_
      rw [nI_clamp (by omega), nI_clamp (by omega), nI_clamp (by omega)]
      repeat refine zA_step rfl rfl ?_
      refine zA_call rfl rfl (cl_fine ?_)
      exact zA_ret rfl ⟨_, rfl, f4⟩
