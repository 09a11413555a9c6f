/-! likeliest, agree -/
def ct (L : List (Nat × Nat)) (y : Nat) : Nat := L.countP (fun q => q.2 == y)
def LkP (L : List (Nat × Nat)) (S : Nat → Prop) (o : Option Nat) (m : Nat) : Prop := (o = none ∧ m = 0 ∧ ∀ z, S z → ct L z = 0) ∨ (∃ y, o = some y ∧ S y ∧ m = ct L y ∧ 0 < ct L y ∧ ∀ z, S z → ct L z ≤ ct L y ∧ (ct L z = ct L y → y ≤ z))
theorem LkP.uniq {L : List (Nat × Nat)} {S T : Nat → Prop} {o o' : Option Nat} {m m' : Nat} (h : LkP L S o m) (h' : LkP L T o' m') (h1 : ∀ z, S z → T z) (h2 : ∀ z, T z → 0 < ct L z → S z) : o = o' ∧ m = m' := by
  rcases h with ⟨a1, a2, a3⟩ | ⟨y, a1, a2, a3, a4, a5⟩
  · rcases h' with ⟨b1, b2, b3⟩ | ⟨y', b1, b2, b3, b4, b5⟩
    · exact ⟨by rw [a1, b1], by rw [a2, b2]⟩
    · have := a3 y' (h2 y' b2 b4)
      omega
  · rcases h' with ⟨b1, b2, b3⟩ | ⟨y', b1, b2, b3, b4, b5⟩
    · have := b3 y (h1 y a2)
      omega
    · have c1 := a5 y' (h2 y' b2 b4)
      have c2 := b5 y (h1 y a2)
      have e : ct L y = ct L y' := by omega
      have : y = y' := by
        have := c1.2 e.symm
        have := c2.2 e
        omega
      exact ⟨by rw [a1, b1, this], by rw [a3, b3, this]⟩
theorem ct_pos {L : List (Nat × Nat)} {q : Nat × Nat} (h : q ∈ L) : 0 < ct L q.2 := List.countP_pos_iff.mpr ⟨q, h, by simp⟩
theorem ct_mem {L : List (Nat × Nat)} {z : Nat} (h : 0 < ct L z) : ∃ q ∈ L, q.2 = z := by
  obtain ⟨q, h1, h2⟩ := List.countP_pos_iff.mp h
  exact ⟨q, h1, by simpa using h2⟩
theorem ct_le (L : List (Nat × Nat)) (z : Nat) : ct L z ≤ L.length := List.countP_le_length
set_option maxHeartbeats 4000000 in
set_option maxRecDepth 100000 in
theorem cl_likeliestYard {d : Nat} {σ : zSo} {Q : Option Value → zSo → Prop} {L : List (Nat × Nat)} (hO : OS σ L) (hQ : ∀ o m, LkP L (fun z => ∃ q ∈ L, q.2 = z) o m → Q (some (.int (eO o))) σ) : zC (d + 1) 18 [.ref 64] σ Q := by
  obtain ⟨o1, o2, o3⟩ := id hO
  have h99 : ∀ q ∈ L, q.2 ≤ 99 := fun q hq => by
    obtain ⟨i, hi⟩ := List.getElem?_of_mem hq
    exact (o3 i q hi).2.2.2
  have lp : ∀ n k, k + n = L.length → ∀ o m, LkP L (fun z => ∃ q ∈ L.take k, q.2 = z) o m → m ≤ 6 → ∀ i : Int32, i = nI k → zA (d + 1) 18 7 [(0, .ref 64), (1, .int (eO o)), (2, .int (nI m)), (3, .int i)] [] σ Q := by
    intro n
    induction n with
    | zero =>
      intro k hk o m hl hm i ei
      subst ei
      have : k = L.length := by omega
      subst this
      refine zA_s0 rfl ?_
      repeat refine zA_step rfl rfl ?_
      rw [o2]
      refine zA_t (Int32.le_refl _) ?_
      repeat refine zA_step rfl rfl ?_
      rw [List.take_length] at hl
      exact zA_ret rfl (hQ o m hl)
    | succ n ih =>
      intro k hk o m hl hm i ei
      subst ei
      obtain ⟨q, hq⟩ := tk_get (show k < L.length by omega)
      have hqm := List.mem_of_getElem? hq
      have hq9 := h99 q hqm
      have hcl := ct_le L q.2
      have hcp := ct_pos hqm
      obtain ⟨-, q2, -, -⟩ := o3 k q hq
      have hS : ∀ z, (∃ a ∈ L.take (k + 1), a.2 = z) ↔ ((∃ a ∈ L.take k, a.2 = z) ∨ z = q.2) := by
        intro z
        rw [tk_succ hq]
        constructor
        · rintro ⟨a, ha, e⟩
          rcases List.mem_append.mp ha with ha | ha
          · exact Or.inl ⟨a, ha, e⟩
          · rw [List.mem_singleton.mp ha] at e
            exact Or.inr e.symm
        · rintro (⟨a, ha, e⟩ | e)
          · exact ⟨a, List.mem_append_left _ ha, e⟩
          · exact ⟨q, List.mem_append_right _ (List.mem_singleton.mpr rfl), e.symm⟩
      refine zA_s0 rfl ?_
      repeat refine zA_step rfl rfl ?_
      rw [o2]
      refine zA_f (by simp (disch := omega) only [nu_lt, nu_le, nu_eq, nu_cmp_lt, nu_cmp_gt, nu_cmp_ge, nu_cmp_le, nu_wide, Int32.toInt_add, Int32.toInt_sub, Int32.toInt_mul, nu_I, Nat.reducePow, nu_bm, Int32.reduceToInt, Int64.reduceToInt]; omega) ?_
      repeat refine zA_step rfl rfl ?_
      refine zA_ld (j := k) rfl rfl (by omega) (by decide) q2 ?_
      refine zA_call rfl rfl (cl_alike hO ?_)
      rw [cnt_eq h99 (by omega)]
      show zA _ _ _ _ (.int (nI (ct L q.2)) :: _) _ _
      repeat refine zA_step rfl rfl ?_
      have take : LkP L (fun z => ∃ a ∈ L.take (k + 1), a.2 = z) (some q.2) (ct L q.2) → zA (d + 1) 18 7 [(0, .ref 64), (1, .int (nI q.2)), (2, .int (nI (ct L q.2))), (3, .int (nI k + 1))] [] σ Q := fun h => ih (k + 1) (by omega) (some q.2) (ct L q.2) h (by omega) _ (nI_1 k)
      have keep : LkP L (fun z => ∃ a ∈ L.take (k + 1), a.2 = z) o m → zA (d + 1) 18 7 [(0, .ref 64), (1, .int (eO o)), (2, .int (nI m)), (3, .int (nI k + 1))] [] σ Q := fun h => ih (k + 1) (by omega) o m h hm _ (nI_1 k)
      by_cases h1 : m < ct L q.2
      · refine zA_t (by simp (disch := omega) only [nu_lt, nu_le, nu_eq, nu_cmp_lt, nu_cmp_gt, nu_cmp_ge, nu_cmp_le, nu_wide, Int32.toInt_add, Int32.toInt_sub, Int32.toInt_mul, nu_I, Nat.reducePow, nu_bm, Int32.reduceToInt, Int64.reduceToInt]; omega) ?_
        repeat refine zA_step rfl rfl ?_
        refine zA_ld (j := k) rfl rfl (by omega) (by decide) q2 ?_
        repeat refine zA_step rfl rfl ?_
        refine zA_dr rfl rfl rfl ?_
        refine take (Or.inr ⟨q.2, rfl, (hS _).mpr (Or.inr rfl), rfl, hcp, fun z hz => ?_⟩)
        rcases (hS z).mp hz with hz | hz
        · rcases hl with ⟨-, -, a3⟩ | ⟨y, -, -, a3, -, a5⟩
          · have := a3 z hz
            omega
          · have := a5 z hz
            omega
        · subst hz
          exact ⟨Nat.le_refl _, fun _ => Nat.le_refl _⟩
      · refine zA_f (by simp (disch := omega) only [nu_lt, nu_le, nu_eq, nu_cmp_lt, nu_cmp_gt, nu_cmp_ge, nu_cmp_le, nu_wide, Int32.toInt_add, Int32.toInt_sub, Int32.toInt_mul, nu_I, Nat.reducePow, nu_bm, Int32.reduceToInt, Int64.reduceToInt]; omega) ?_
        repeat refine zA_step rfl rfl ?_
        by_cases h2 : ct L q.2 = m
        · rcases hl with ⟨-, a2, -⟩ | ⟨y, a1, a2, a3, a4, a5⟩
          · omega
          · have hy9 : y ≤ 99 := by
              obtain ⟨a, ha, e⟩ := a2
              rw [← e]
              exact h99 a (List.mem_of_mem_take ha)
            subst a1
            refine zA_t (by simp (disch := omega) only [nu_lt, nu_le, nu_eq, nu_cmp_lt, nu_cmp_gt, nu_cmp_ge, nu_cmp_le, nu_wide, Int32.toInt_add, Int32.toInt_sub, Int32.toInt_mul, nu_I, Nat.reducePow, nu_bm, Int32.reduceToInt, Int64.reduceToInt]; omega) ?_
            repeat refine zA_step rfl rfl ?_
            refine zA_ld (j := k) rfl rfl (by omega) (by decide) q2 ?_
            repeat refine zA_step rfl rfl ?_
            by_cases h3 : q.2 < y
            · refine zA_f (by show ¬ nI y ≤ nI q.2; exact (by simp (disch := omega) only [nu_lt, nu_le, nu_eq, nu_cmp_lt, nu_cmp_gt, nu_cmp_ge, nu_cmp_le, nu_wide, Int32.toInt_add, Int32.toInt_sub, Int32.toInt_mul, nu_I, Nat.reducePow, nu_bm, Int32.reduceToInt, Int64.reduceToInt]; omega)) ?_
              repeat refine zA_step rfl rfl ?_
              refine zA_ld (j := k) rfl rfl (by omega) (by decide) q2 ?_
              repeat refine zA_step rfl rfl ?_
              refine zA_dr rfl rfl rfl ?_
              refine take (Or.inr ⟨q.2, rfl, (hS _).mpr (Or.inr rfl), rfl, hcp, fun z hz => ?_⟩)
              rcases (hS z).mp hz with hz | hz
              · have h9 := a5 z hz
                refine ⟨by omega, fun e => ?_⟩
                have := h9.2 (by omega)
                omega
              · subst hz
                exact ⟨Nat.le_refl _, fun _ => Nat.le_refl _⟩
            · refine zA_t (by show nI y ≤ nI q.2; exact (by simp (disch := omega) only [nu_lt, nu_le, nu_eq, nu_cmp_lt, nu_cmp_gt, nu_cmp_ge, nu_cmp_le, nu_wide, Int32.toInt_add, Int32.toInt_sub, Int32.toInt_mul, nu_I, Nat.reducePow, nu_bm, Int32.reduceToInt, Int64.reduceToInt]; omega)) ?_
              repeat refine zA_step rfl rfl ?_
              refine zA_dr rfl rfl rfl ?_
              refine keep (Or.inr ⟨y, rfl, (hS _).mpr (Or.inl a2), a3, a4, fun z hz => ?_⟩)
              rcases (hS z).mp hz with hz | hz
              · exact a5 z hz
              · subst hz
                exact ⟨by omega, fun _ => by omega⟩
        · refine zA_f (by simp (disch := omega) only [nu_lt, nu_le, nu_eq, nu_cmp_lt, nu_cmp_gt, nu_cmp_ge, nu_cmp_le, nu_wide, Int32.toInt_add, Int32.toInt_sub, Int32.toInt_mul, nu_I, Nat.reducePow, nu_bm, Int32.reduceToInt, Int64.reduceToInt]; omega) ?_
          repeat refine zA_step rfl rfl ?_
          refine zA_dr rfl rfl rfl ?_
          rcases hl with ⟨-, a2, -⟩ | ⟨y, a1, a2, a3, a4, a5⟩
          · omega
          · refine keep (Or.inr ⟨y, a1, (hS _).mpr (Or.inl a2), a3, a4, fun z hz => ?_⟩)
            rcases (hS z).mp hz with hz | hz
            · exact a5 z hz
            · subst hz
              exact ⟨by omega, fun _ => by omega⟩
  show zA (d + 1) _ 0 [(0, .ref 64)] [] σ Q
  repeat refine zA_step rfl rfl ?_
  exact lp L.length 0 (by omega) none 0 (Or.inl ⟨rfl, rfl, fun z ⟨q, hq, _⟩ => by simp at hq⟩) (by omega) 0 rfl
