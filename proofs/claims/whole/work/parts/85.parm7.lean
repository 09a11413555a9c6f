/-! the text of a parish: the reference begins, ends, its loops -/
set_option maxHeartbeats 4000000 in
set_option maxRecDepth 100000 in
theorem mo_begin {d n : Nat} {b : Nat → Nat} {σ : zSo} {Q : Option Value → zSo → Prop} (hT : TMm σ b n) (hQ : ∀ τ, XS b n σ (.inr 0) τ → Q none τ) : zC (d + 2) 121 [.ref 70] σ Q := by
  have key : ∀ τ c s t v f a, τ = mk σ c s t v f a → zC (d + 2) 121 [.ref 70] τ Q := by
    intro τ c s t v f a e
    subst e
    show zA (d + 2) _ 0 [(0, .ref 70)] [] _ Q
    repeat refine zA_step rfl rfl ?_
    simp only [mk_c, mk_s, mk_t, mk_v, mk_f, mk_a, mk_n, mk_l, mk_tp, mk_zc, mk_zs, mk_zt, mk_zv, mk_zf, mk_za]
    refine zA_call rfl rfl (mo_nextToken (j := 0) hT (by omega) (fun c t v h => ?_))
    exact zA_ret rfl (hQ _ ⟨by omega, c, t, v, a, h, rfl⟩)
  exact key σ _ _ _ _ _ _ (mk_eta σ)
def EndS (σ τ : zSo) : Prop := (∀ k, k ≠ 70 → τ k = σ k) ∧ τ 70 11 = 0 ∧ ∀ i, i < 11 ∨ 18 < i → τ 70 i = σ 70 i
set_option maxHeartbeats 4000000 in
set_option maxRecDepth 100000 in
theorem mo_failed {d n : Nat} {b : Nat → Nat} {σ τ : zSo} {Q : Option Value → zSo → Prop} {X : Sum (Nat × Nat) Nat} (hX : XS b n σ X τ)
    (h1 : ∀ e, (X = .inl e ∨ ∃ j, X = .inr j ∧ n ≠ j ∧ e = (1, j)) → ∀ τ', EndS σ τ' → τ' 70 18 = nI e.1 → τ' 70 17 = nI e.2 → Q (some (.int 1)) τ') (h0 : X = .inr n → ∀ τ', EndS σ τ' → τ' 70 18 = σ 70 18 → Q (some (.int 0)) τ') : zC (d + 1) 122 [.ref 70] τ Q := by
  have ends : ∀ (c s t v f a x : Int32), EndS σ (zup (zup (mk σ c s t v f a) 70 11 0) 70 18 x) := by
    intro c s t v f a x
    refine ⟨fun k hk => ?_, rfl, fun i hi => ?_⟩
    · rw [zup_o _ _ _ hk, zup_o _ _ _ hk, mk_o hk]
    · simp only [zup, upd, if_true]
      rw [if_neg (by omega), if_neg (by omega)]
      simp only [mk, if_true]
      rw [if_neg (by omega), if_neg (by omega), if_neg (by omega), if_neg (by omega), if_neg (by omega), if_neg (by omega)]
  have flt : ∀ (e : Nat × Nat) (c s t v : Int32), (1 ≤ e.1 ∧ e.1 ≤ 3) → (X = .inl e ∨ ∃ j, X = .inr j ∧ n ≠ j ∧ e = (1, j)) → zA (d + 1) 122 20 [(0, .ref 70)] [] (mk σ c s t v (nI e.1) (nI e.2)) Q := by
    intro e c s t v he hx
    have hpos : ¬ nI e.1 ≤ 0 := (by simp (disch := omega) only [nu_lt, nu_le, nu_eq, nu_cmp_lt, nu_cmp_gt, nu_cmp_ge, nu_cmp_le, nu_wide, Int32.toInt_add, Int32.toInt_sub, Int32.toInt_mul, nu_I, Nat.reducePow, nu_bm, Int32.reduceToInt, Int64.reduceToInt]; omega)
    repeat refine zA_step rfl rfl ?_
    refine zA_f hpos ?_
    repeat refine zA_step rfl rfl ?_
    refine zA_f hpos ?_
    repeat refine zA_step rfl rfl ?_
    exact zA_ret rfl (h1 e hx _ (ends _ _ _ _ _ _ _) rfl rfl)
  show zA (d + 1) _ 0 [(0, .ref 70)] [] τ Q
  cases X with
  | inl e =>
    obtain ⟨he, c, s, t, v, rfl⟩ := id hX
    repeat refine zA_step rfl rfl ?_
    refine zA_f (nI_f he) ?_
    exact flt e c s t v he (Or.inl rfl)
  | inr j =>
    obtain ⟨hj, c, t, v, a, hk, rfl⟩ := id hX
    have he := TK_end hk
    repeat refine zA_step rfl rfl ?_
    refine zA_t rfl ?_
    repeat refine zA_step rfl rfl ?_
    by_cases hn : n = j
    · refine zA_t (he.mpr hn) ?_
      repeat refine zA_step rfl rfl ?_
      refine zA_t (show (0 : Int32) ≤ 0 by decide) ?_
      repeat refine zA_step rfl rfl ?_
      refine zA_t (show (0 : Int32) ≤ 0 by decide) ?_
      repeat refine zA_step rfl rfl ?_
      exact zA_ret rfl (h0 (by rw [hn]) _ (ends _ _ _ _ _ _ _) rfl)
    · refine zA_f (fun z => hn (he.mp z)) ?_
      repeat refine zA_step rfl rfl ?_
      refine zA_call rfl rfl (mo_bad0 ?_)
      exact flt (1, j) c (nI j) t v ⟨by simp, by simp⟩ (Or.inr ⟨j, rfl, hn, rfl⟩)
set_option maxHeartbeats 4000000 in
set_option maxRecDepth 100000 in
theorem mo_init {d n : Nat} {b : Nat → Nat} {σ τ : zSo} {Q : Option Value → zSo → Prop} {X : Sum (Nat × Nat) Nat} (hX : XS b n σ X τ) (hQ : ∀ σ' τ' i, zFr [75] σ σ' → XS b n σ' X τ' → TQ σ' [] [] → zA d 128 42 [(0, .ref 70), (1, .int i)] [] τ' Q) : zA d 128 11 [(0, .ref 70), (1, .int 0)] [] τ Q := by
  have lp : ∀ m k, k + m = 143 → ∀ σ1 τ1, zFr [75] σ σ1 → XS b n σ1 X τ1 → (∀ j, j < k → σ1 75 j = if j < 35 then 0 else NO) → ∀ i : Int32, i = nI k → zA d 128 11 [(0, .ref 70), (1, .int i)] [] τ1 Q := by
    intro m
    induction m with
    | zero =>
      intro k hk σ1 τ1 hF hX1 hl i ei
      subst ei
      have : k = 143 := by omega
      subst this
      refine zA_s0 rfl ?_
      refine zA_s0 rfl ?_
      refine zA_s0 rfl ?_
      refine zA_t (by decide) ?_
      refine hQ σ1 τ1 _ hF hX1 ⟨?_, ?_, ?_, fun s y h => by simp at h, fun w q h => by simp at h, fun w hw => ?_, fun j h1 h2 => ?_⟩
      · rw [hl 2 (by omega)]; rfl
      · rw [hl 3 (by omega)]; rfl
      · rw [hl 4 (by omega)]; rfl
      · rw [hl _ (by omega), if_pos (by omega)]
      · rw [hl _ (by omega), if_neg (by omega)]
    | succ m ih =>
      intro k hk σ1 τ1 hF hX1 hl i ei
      subst ei
      have nx : ∀ x : Int32, (x = if k < 35 then 0 else NO) → zA d 128 11 [(0, .ref 70), (1, .int (nI k + 1))] [] (zup τ1 75 k x) Q := fun x hx => ih (k + 1) (by omega) _ _ (zFr_f1 hF) (hX1.fr k x) (fun j hj => by
        rw [zup_k]
        simp only [upd]
        by_cases e : j = k
        · rw [if_pos e, hx, e]
        · rw [if_neg e]; exact hl j (by omega)) _ (nI_1 k)
      refine zA_s0 rfl ?_
      repeat refine zA_step rfl rfl ?_
      refine zA_f (by simp (disch := omega) only [nu_lt, nu_le, nu_eq, nu_cmp_lt, nu_cmp_gt, nu_cmp_ge, nu_cmp_le, nu_wide, Int32.toInt_add, Int32.toInt_sub, Int32.toInt_mul, nu_I, Nat.reducePow, nu_bm, Int32.reduceToInt, Int64.reduceToInt]; omega) ?_
      repeat refine zA_step rfl rfl ?_
      by_cases c : k < 35
      · refine zA_t (by simp (disch := omega) only [nu_lt, nu_le, nu_eq, nu_cmp_lt, nu_cmp_gt, nu_cmp_ge, nu_cmp_le, nu_wide, Int32.toInt_add, Int32.toInt_sub, Int32.toInt_mul, nu_I, Nat.reducePow, nu_bm, Int32.reduceToInt, Int64.reduceToInt]; omega) ?_
        repeat refine zA_step rfl rfl ?_
        refine zA_sto (j := k) rfl rfl (by omega) (by decide) ?_
        repeat refine zA_step rfl rfl ?_
        exact nx 0 (by rw [if_pos c])
      · refine zA_f (by simp (disch := omega) only [nu_lt, nu_le, nu_eq, nu_cmp_lt, nu_cmp_gt, nu_cmp_ge, nu_cmp_le, nu_wide, Int32.toInt_add, Int32.toInt_sub, Int32.toInt_mul, nu_I, Nat.reducePow, nu_bm, Int32.reduceToInt, Int64.reduceToInt]; omega) ?_
        repeat refine zA_step rfl rfl ?_
        refine zA_sto (j := k) rfl rfl (by omega) (by decide) ?_
        repeat refine zA_step rfl rfl ?_
        exact nx NO (by rw [if_neg c])
  exact lp 143 0 (by omega) σ τ zFr.rf hX (fun j hj => by omega) 0 rfl
