/-! least, greatest, below, middle, ofOldest of the class -/
theorem OS_99 {σ : zSo} {L : List (Nat × Nat)} (hO : OS σ L) : ∀ q ∈ L, q.2 ≤ 99 := fun q hq => by
  obtain ⟨i, hi⟩ := List.getElem?_of_mem hq
  exact (hO.2.2 i q hi).2.2.2
theorem tk_mem {α : Type} {L : List α} {k : Nat} {q a : α} (h : L[k]? = some q) : a ∈ L.take (k + 1) ↔ a ∈ L.take k ∨ a = q := by
  rw [tk_succ h, List.mem_append, List.mem_singleton]
set_option maxHeartbeats 4000000 in
set_option maxRecDepth 100000 in
theorem cl_least {d : Nat} {σ : zSo} {Q : Option Value → zSo → Prop} {L : List (Nat × Nat)} (hO : OS σ L) (h0 : L.length ≠ 0) (hQ : ∀ y, (∃ q ∈ L, q.2 = y) → (∀ q ∈ L, y ≤ q.2) → Q (some (.int (nI y))) σ) : zC d 12 [.ref 64] σ Q := by
  have h99 := OS_99 hO
  obtain ⟨o1, o2, o3⟩ := hO
  have lp : ∀ n k, k + n = L.length → ∀ m, m ≤ 99 → (∀ q ∈ L.take k, m ≤ q.2) → (m = 99 ∨ ∃ q ∈ L.take k, q.2 = m) → ∀ i : Int32, i = nI k → zA d 12 5 [(0, .ref 64), (1, .int (nI m)), (2, .int i)] [] σ Q := by
    intro n
    induction n with
    | zero =>
      intro k hk m h1 h2 h3 i ei
      subst ei
      have : k = L.length := by omega
      subst this
      refine zA_s0 rfl ?_
      repeat refine zA_step rfl rfl ?_
      rw [o2]
      refine zA_t (Int32.le_refl _) ?_
      repeat refine zA_step rfl rfl ?_
      rw [List.take_length] at h2 h3
      refine zA_ret rfl (hQ m ?_ h2)
      rcases h3 with h3 | h3
      · obtain ⟨q, hq⟩ := tk_get (show 0 < L.length by omega)
        have hq := List.mem_of_getElem? hq
        have := h99 q hq
        have := h2 q hq
        exact ⟨q, hq, by omega⟩
      · exact h3
    | succ n ih =>
      intro k hk m h1 h2 h3 i ei
      subst ei
      obtain ⟨q, hq⟩ := tk_get (show k < L.length by omega)
      obtain ⟨-, q2, -, q4⟩ := o3 k q hq
      refine zA_s0 rfl ?_
      repeat refine zA_step rfl rfl ?_
      rw [o2]
      refine zA_f (by simp (disch := omega) only [nu_lt, nu_le, nu_eq, nu_cmp_lt, nu_cmp_gt, nu_cmp_ge, nu_cmp_le, nu_wide, Int32.toInt_add, Int32.toInt_sub, Int32.toInt_mul, nu_I, Nat.reducePow, nu_bm, Int32.reduceToInt, Int64.reduceToInt]; omega) ?_
      repeat refine zA_step rfl rfl ?_
      refine zA_ld (j := k) rfl rfl (by omega) (by decide) q2 ?_
      repeat refine zA_step rfl rfl ?_
      have go : ∀ m', (m' = m ∨ m' = q.2) → m' ≤ m → m' ≤ q.2 → zA d 12 5 [(0, .ref 64), (1, .int (nI m')), (2, .int (nI k + 1))] [] σ Q := by
        intro m' e l1 l2
        refine ih (k + 1) (by omega) m' (by omega) (fun a ha => ?_) ?_ _ (nI_1 k)
        · rcases (tk_mem hq).mp ha with ha | rfl
          · have := h2 a ha; omega
          · exact l2
        · rcases e with e | e
          · subst e
            rcases h3 with h3 | ⟨a, ha, h3⟩
            · exact Or.inl h3
            · exact Or.inr ⟨a, (tk_mem hq).mpr (Or.inl ha), h3⟩
          · exact Or.inr ⟨q, (tk_mem hq).mpr (Or.inr rfl), e.symm⟩
      by_cases h : q.2 < m
      · rw [if_pos (show nI q.2 < nI m from (by simp (disch := omega) only [nu_lt, nu_le, nu_eq, nu_cmp_lt, nu_cmp_gt, nu_cmp_ge, nu_cmp_le, nu_wide, Int32.toInt_add, Int32.toInt_sub, Int32.toInt_mul, nu_I, Nat.reducePow, nu_bm, Int32.reduceToInt, Int64.reduceToInt]; omega))]
        exact go q.2 (Or.inr rfl) (by omega) (Nat.le_refl _)
      · rw [if_neg (show ¬ nI q.2 < nI m from (by simp (disch := omega) only [nu_lt, nu_le, nu_eq, nu_cmp_lt, nu_cmp_gt, nu_cmp_ge, nu_cmp_le, nu_wide, Int32.toInt_add, Int32.toInt_sub, Int32.toInt_mul, nu_I, Nat.reducePow, nu_bm, Int32.reduceToInt, Int64.reduceToInt]; omega))]
        exact go m (Or.inl rfl) (Nat.le_refl _) (by omega)
  show zA d _ 0 [(0, .ref 64)] [] σ Q
  repeat refine zA_step rfl rfl ?_
  exact lp L.length 0 (by omega) 99 (by omega) (by simp) (Or.inl rfl) 0 rfl
set_option maxHeartbeats 4000000 in
set_option maxRecDepth 100000 in
theorem cl_greatest {d : Nat} {σ : zSo} {Q : Option Value → zSo → Prop} {L : List (Nat × Nat)} (hO : OS σ L) (h0 : L.length ≠ 0) (hQ : ∀ y, (∃ q ∈ L, q.2 = y) → (∀ q ∈ L, q.2 ≤ y) → Q (some (.int (nI y))) σ) : zC d 13 [.ref 64] σ Q := by
  have h99 := OS_99 hO
  obtain ⟨o1, o2, o3⟩ := hO
  have lp : ∀ n k, k + n = L.length → ∀ m, m ≤ 99 → (∀ q ∈ L.take k, q.2 ≤ m) → (m = 0 ∨ ∃ q ∈ L.take k, q.2 = m) → ∀ i : Int32, i = nI k → zA d 13 4 [(0, .ref 64), (1, .int (nI m)), (2, .int i)] [] σ Q := by
    intro n
    induction n with
    | zero =>
      intro k hk m h1 h2 h3 i ei
      subst ei
      have : k = L.length := by omega
      subst this
      refine zA_s0 rfl ?_
      repeat refine zA_step rfl rfl ?_
      rw [o2]
      refine zA_t (Int32.le_refl _) ?_
      repeat refine zA_step rfl rfl ?_
      rw [List.take_length] at h2 h3
      refine zA_ret rfl (hQ m ?_ h2)
      rcases h3 with h3 | h3
      · obtain ⟨q, hq⟩ := tk_get (show 0 < L.length by omega)
        have hq := List.mem_of_getElem? hq
        have := h2 q hq
        exact ⟨q, hq, by omega⟩
      · exact h3
    | succ n ih =>
      intro k hk m h1 h2 h3 i ei
      subst ei
      obtain ⟨q, hq⟩ := tk_get (show k < L.length by omega)
      obtain ⟨-, q2, -, q4⟩ := o3 k q hq
      refine zA_s0 rfl ?_
      repeat refine zA_step rfl rfl ?_
      rw [o2]
      refine zA_f (by simp (disch := omega) only [nu_lt, nu_le, nu_eq, nu_cmp_lt, nu_cmp_gt, nu_cmp_ge, nu_cmp_le, nu_wide, Int32.toInt_add, Int32.toInt_sub, Int32.toInt_mul, nu_I, Nat.reducePow, nu_bm, Int32.reduceToInt, Int64.reduceToInt]; omega) ?_
      repeat refine zA_step rfl rfl ?_
      refine zA_ld (j := k) rfl rfl (by omega) (by decide) q2 ?_
      repeat refine zA_step rfl rfl ?_
      have go : ∀ m', (m' = m ∨ m' = q.2) → m' ≤ 99 → m ≤ m' → q.2 ≤ m' → zA d 13 4 [(0, .ref 64), (1, .int (nI m')), (2, .int (nI k + 1))] [] σ Q := by
        intro m' e l0 l1 l2
        refine ih (k + 1) (by omega) m' (by omega) (fun a ha => ?_) ?_ _ (nI_1 k)
        · rcases (tk_mem hq).mp ha with ha | rfl
          · have := h2 a ha; omega
          · exact l2
        · rcases e with e | e
          · subst e
            rcases h3 with h3 | ⟨a, ha, h3⟩
            · exact Or.inl h3
            · exact Or.inr ⟨a, (tk_mem hq).mpr (Or.inl ha), h3⟩
          · exact Or.inr ⟨q, (tk_mem hq).mpr (Or.inr rfl), e.symm⟩
      by_cases h : m < q.2
      · rw [if_pos (show nI m < nI q.2 from (by simp (disch := omega) only [nu_lt, nu_le, nu_eq, nu_cmp_lt, nu_cmp_gt, nu_cmp_ge, nu_cmp_le, nu_wide, Int32.toInt_add, Int32.toInt_sub, Int32.toInt_mul, nu_I, Nat.reducePow, nu_bm, Int32.reduceToInt, Int64.reduceToInt]; omega))]
        exact go q.2 (Or.inr rfl) q4 (by omega) (Nat.le_refl _)
      · rw [if_neg (show ¬ nI m < nI q.2 from (by simp (disch := omega) only [nu_lt, nu_le, nu_eq, nu_cmp_lt, nu_cmp_gt, nu_cmp_ge, nu_cmp_le, nu_wide, Int32.toInt_add, Int32.toInt_sub, Int32.toInt_mul, nu_I, Nat.reducePow, nu_bm, Int32.reduceToInt, Int64.reduceToInt]; omega))]
        exact go m (Or.inl rfl) h1 (Nat.le_refl _) (by omega)
  show zA d _ 0 [(0, .ref 64)] [] σ Q
  repeat refine zA_step rfl rfl ?_
  exact lp L.length 0 (by omega) 0 (by omega) (by simp) (Or.inl rfl) 0 rfl
set_option maxHeartbeats 4000000 in
set_option maxRecDepth 100000 in
theorem cl_below {d : Nat} {σ : zSo} {Q : Option Value → zSo → Prop} {L : List (Nat × Nat)} {x : Int32} (hO : OS σ L) (hQ : Q (some (.int (nI (L.countP (fun q => decide (nI q.2 < x)))))) σ) : zC d 16 [.ref 64, .int x] σ Q := by
  obtain ⟨o1, o2, o3⟩ := hO
  have lp : ∀ n k, k + n = L.length → ∀ c i : Int32, c = nI ((L.take k).countP (fun q => decide (nI q.2 < x))) → i = nI k → zA d 16 4 [(0, .ref 64), (1, .int x), (2, .int c), (3, .int i)] [] σ Q := by
    intro n
    induction n with
    | zero =>
      intro k hk c i ec ei
      subst ec ei
      have : k = L.length := by omega
      subst this
      refine zA_s0 rfl ?_
      repeat refine zA_step rfl rfl ?_
      rw [o2]
      refine zA_t (Int32.le_refl _) ?_
      repeat refine zA_step rfl rfl ?_
      rw [List.take_length]
      exact zA_ret rfl hQ
    | succ n ih =>
      intro k hk c i ec ei
      subst ec ei
      obtain ⟨q, hq⟩ := tk_get (show k < L.length by omega)
      obtain ⟨-, q2, -, -⟩ := o3 k q hq
      refine zA_s0 rfl ?_
      repeat refine zA_step rfl rfl ?_
      rw [o2]
      refine zA_f (by simp (disch := omega) only [nu_lt, nu_le, nu_eq, nu_cmp_lt, nu_cmp_gt, nu_cmp_ge, nu_cmp_le, nu_wide, Int32.toInt_add, Int32.toInt_sub, Int32.toInt_mul, nu_I, Nat.reducePow, nu_bm, Int32.reduceToInt, Int64.reduceToInt]; omega) ?_
      repeat refine zA_step rfl rfl ?_
      refine zA_ld (j := k) rfl rfl (by omega) (by decide) q2 ?_
      repeat refine zA_step rfl rfl ?_
      refine zA_c (fun h => ?_) (fun h => ?_)
      · repeat refine zA_step rfl rfl ?_
        refine ih (k + 1) (by omega) _ _ ?_ (nI_1 k)
        rw [tk_succ hq, List.countP_append]
        have h' : ¬ nI q.2 < x := Int32.not_lt.mpr h
        simp [h']
      · repeat refine zA_step rfl rfl ?_
        refine ih (k + 1) (by omega) _ _ ?_ (nI_1 k)
        rw [tk_succ hq, List.countP_append]
        have h' : nI q.2 < x := Int32.not_le.mp h
        simp [h', nI_1]
  show zA d _ 0 [(0, .ref 64), (1, .int x)] [] σ Q
  repeat refine zA_step rfl rfl ?_
  exact lp L.length 0 (by omega) 0 0 rfl rfl
def lts (L : List (Nat × Nat)) (v : Nat) : Nat := L.countP (fun q => decide (q.2 < v))
theorem lts_eq {L : List (Nat × Nat)} {y : Nat} (hL : ∀ q ∈ L, q.2 ≤ 99) (hy : y < 1000) : L.countP (fun q => decide (nI q.2 < nI y)) = lts L y := by
  unfold lts
  apply List.countP_congr
  intro q hq
  have := hL q hq
  rw [decide_eq_true_iff, decide_eq_true_iff]
  exact ⟨fun h => by rw [nu_lt, nu_I (by omega), nu_I (by omega)] at h; omega, fun h => by rw [nu_lt, nu_I (by omega), nu_I (by omega)]; omega⟩
theorem lts_s (y : Nat) : ∀ L : List (Nat × Nat), lts L (y + 1) = lts L y + ct L y
  | [] => rfl
  | q :: t => by
    have ih := lts_s y t
    unfold lts ct at *
    rw [List.countP_cons, List.countP_cons, List.countP_cons, ih]
    by_cases h : q.2 < y
    · have : q.2 ≠ y := by omega
      have h2 : q.2 < y + 1 := by omega
      simp [h, h2, this]; omega
    · by_cases e : q.2 = y
      · simp [e]; omega
      · have h2 : ¬ q.2 < y + 1 := by omega
        simp [h, h2, e]
theorem lts_len (L : List (Nat × Nat)) (v : Nat) : lts L v ≤ L.length := List.countP_le_length
theorem lts_srt {S : List Nat} {L : List (Nat × Nat)} (h : S.Perm (L.map (fun q => q.2))) (v : Nat) : S.countP (fun a => decide (a < v)) = lts L v := by
  rw [h.countP_eq, List.countP_map]; rfl
set_option maxHeartbeats 4000000 in
set_option maxRecDepth 100000 in
theorem cl_middle {d : Nat} {σ : zSo} {Q : Option Value → zSo → Prop} {L : List (Nat × Nat)} (hO : OS σ L) (h1 : ∃ q ∈ L, lts L q.2 ≤ L.length / 2 ∧ L.length / 2 < lts L (q.2 + 1)) (hQ : ∀ y, lts L y ≤ L.length / 2 → L.length / 2 < lts L (y + 1) → Q (some (.int (nI y))) σ) : zC (d + 1) 14 [.ref 64] σ Q := by
  have h99 := OS_99 hO
  obtain ⟨o1, o2, o3⟩ := id hO
  have lp : ∀ n k, k + n = L.length → (∀ q ∈ L.take k, ¬ (lts L q.2 ≤ L.length / 2 ∧ L.length / 2 < lts L (q.2 + 1))) → ∀ i : Int32, i = nI k → zA (d + 1) 14 9 [(0, .ref 64), (1, .int (nI (L.length / 2))), (2, .int i)] [] σ Q := by
    intro n
    induction n with
    | zero =>
      intro k hk h i ei
      have : k = L.length := by omega
      subst this
      rw [List.take_length] at h
      obtain ⟨q, hq, e⟩ := h1
      exact absurd e (h q hq)
    | succ n ih =>
      intro k hk h i ei
      subst ei
      obtain ⟨q, hq⟩ := tk_get (show k < L.length by omega)
      obtain ⟨-, q2, -, q4⟩ := o3 k q hq
      have l1 := lts_len L q.2
      have l2 := ct_le L q.2
      have l3 := lts_s q.2 L
      have step : ¬ (lts L q.2 ≤ L.length / 2 ∧ L.length / 2 < lts L (q.2 + 1)) → zA (d + 1) 14 9 [(0, .ref 64), (1, .int (nI (L.length / 2))), (2, .int (nI k + 1))] [] σ Q := fun hn => ih (k + 1) (by omega) (fun a ha => by
        rcases (tk_mem hq).mp ha with ha | rfl
        · exact h a ha
        · exact hn) _ (nI_1 k)
      refine zA_s0 rfl ?_
      repeat refine zA_step rfl rfl ?_
      rw [o2]
      refine zA_f (by simp (disch := omega) only [nu_lt, nu_le, nu_eq, nu_cmp_lt, nu_cmp_gt, nu_cmp_ge, nu_cmp_le, nu_wide, Int32.toInt_add, Int32.toInt_sub, Int32.toInt_mul, nu_I, Nat.reducePow, nu_bm, Int32.reduceToInt, Int64.reduceToInt]; omega) ?_
      repeat refine zA_step rfl rfl ?_
      refine zA_ld (j := k) rfl rfl (by omega) (by decide) q2 ?_
      refine zA_call rfl rfl (cl_below hO ?_)
      rw [lts_eq h99 (by omega)]
      repeat refine zA_step rfl rfl ?_
      by_cases c1 : lts L q.2 ≤ L.length / 2
      · refine zA_f (by simp (disch := omega) only [nu_lt, nu_le, nu_eq, nu_cmp_lt, nu_cmp_gt, nu_cmp_ge, nu_cmp_le, nu_wide, Int32.toInt_add, Int32.toInt_sub, Int32.toInt_mul, nu_I, Nat.reducePow, nu_bm, Int32.reduceToInt, Int64.reduceToInt]; omega) ?_
        repeat refine zA_step rfl rfl ?_
        refine zA_ld (j := k) rfl rfl (by omega) (by decide) q2 ?_
        refine zA_call rfl rfl (cl_alike hO ?_)
        rw [cnt_eq h99 (by omega)]
        show zA _ _ _ _ (.int (nI (ct L q.2)) :: _) _ _
        repeat refine zA_step rfl rfl ?_
        by_cases c2 : L.length / 2 < lts L (q.2 + 1)
        · refine zA_f (by simp (disch := omega) only [nu_lt, nu_le, nu_eq, nu_cmp_lt, nu_cmp_gt, nu_cmp_ge, nu_cmp_le, nu_wide, Int32.toInt_add, Int32.toInt_sub, Int32.toInt_mul, nu_I, Nat.reducePow, nu_bm, Int32.reduceToInt, Int64.reduceToInt]; omega) ?_
          repeat refine zA_step rfl rfl ?_
          refine zA_ld (j := k) rfl rfl (by omega) (by decide) q2 ?_
          exact zA_ret rfl (hQ q.2 c1 c2)
        · refine zA_t (by simp (disch := omega) only [nu_lt, nu_le, nu_eq, nu_cmp_lt, nu_cmp_gt, nu_cmp_ge, nu_cmp_le, nu_wide, Int32.toInt_add, Int32.toInt_sub, Int32.toInt_mul, nu_I, Nat.reducePow, nu_bm, Int32.reduceToInt, Int64.reduceToInt]; omega) ?_
          repeat refine zA_step rfl rfl ?_
          refine zA_dr rfl rfl rfl ?_
          exact step (fun z => c2 z.2)
      · refine zA_t (by simp (disch := omega) only [nu_lt, nu_le, nu_eq, nu_cmp_lt, nu_cmp_gt, nu_cmp_ge, nu_cmp_le, nu_wide, Int32.toInt_add, Int32.toInt_sub, Int32.toInt_mul, nu_I, Nat.reducePow, nu_bm, Int32.reduceToInt, Int64.reduceToInt]; omega) ?_
        repeat refine zA_step rfl rfl ?_
        refine zA_dr rfl rfl rfl ?_
        exact step (fun z => c1 z.1)
  show zA (d + 1) _ 0 [(0, .ref 64)] [] σ Q
  repeat refine zA_step rfl rfl ?_
  rw [o2]
  rw [show (2 : Int32) = nI 2 from rfl, nu_tdiv (by omega) (by omega) (by omega)]
  exact lp L.length 0 (by omega) (by simp) 0 rfl
def Old (p : paT) (L : List (Nat × Nat)) (q : Nat × Nat) : Prop := q ∈ L ∧ ∀ a ∈ L, pa p a.1 ≤ pa p q.1 ∧ (pa p a.1 = pa p q.1 → q.1 ≤ a.1)
def whO (L : List (Nat × Nat)) : Prop := ∀ (i j : Nat) (a b : Nat × Nat), i < j → L[i]? = some a → L[j]? = some b → a.1 < b.1
theorem vK_ord (p : paT) (s : Nat) : ∀ k, whO (vK p s k)
  | 0 => fun i j a b _ h => by simp [vK] at h
  | k + 1 => by
    cases h : sayO p k s with
    | none => rw [vK_n h]; exact vK_ord p s k
    | some y =>
      rw [vK_s h]
      intro i j a b hij ha hb
      rw [List.getElem?_append] at ha hb
      by_cases c : j < (vK p s k).length
      · rw [if_pos c] at hb
        rw [if_pos (by omega)] at ha
        exact vK_ord p s k i j a b hij ha hb
      · rw [if_neg c] at hb
        have : j - (vK p s k).length = 0 := by
          cases h0 : j - (vK p s k).length with
          | zero => rfl
          | succ m => rw [h0] at hb; simp at hb
        rw [this] at hb
        simp at hb
        rw [if_pos (by omega)] at ha
        have := (vK_mem (List.mem_of_getElem? ha)).1
        rw [← hb]
        exact this
set_option maxHeartbeats 4000000 in
set_option maxRecDepth 100000 in
theorem cl_ofOldest {d Y : Nat} {σ : zSo} {Q : Option Value → zSo → Prop} {p : paT} {L : List (Nat × Nat)} (hO : OS σ L) (hC : PC σ 20 p) (hW : paW p Y) (hY : Y ≤ 2000) (h0 : L.length ≠ 0) (hL : whO L) (hw : ∀ q ∈ L, q.1 < pw p) (hQ : ∀ q, Old p L q → Q (some (.int (nI q.2))) σ) : zC (d + 1) 15 [.ref 64, .ref 20] σ Q := by
  have h99 := OS_99 hO
  obtain ⟨o1, o2, o3⟩ := id hO
  have lp : ∀ n k, k + n = L.length → ∀ (a b : Int32), ((k = 0 ∧ a = NO ∧ b = NO) ∨ ∃ q, Old p (L.take k) q ∧ a = nI (pa p q.1) ∧ b = nI q.2) → ∀ i : Int32, i = nI k → zA (d + 1) 15 9 [(0, .ref 64), (1, .ref 20), (2, .int a), (3, .int b), (4, .int i)] [] σ Q := by
    intro n
    induction n with
    | zero =>
      intro k hk a b h i ei
      subst ei
      have : k = L.length := by omega
      subst this
      refine zA_s0 rfl ?_
      repeat refine zA_step rfl rfl ?_
      rw [o2]
      refine zA_t (Int32.le_refl _) ?_
      repeat refine zA_step rfl rfl ?_
      rw [List.take_length] at h
      rcases h with ⟨h, -⟩ | ⟨q, h1, -, h2⟩
      · omega
      · subst h2
        exact zA_ret rfl (hQ q h1)
    | succ n ih =>
      intro k hk a b h i ei
      subst ei
      obtain ⟨q, hq⟩ := tk_get (show k < L.length by omega)
      obtain ⟨q1, q2, q3, q4⟩ := o3 k q hq
      have hqw := hw q (List.mem_of_getElem? hq)
      have hpa := (hW.2.2.2.2.2.2.1 q.1 hqw).2.1
      have hpy := hW.2.2.1
      have hbef : ∀ a ∈ L.take k, a.1 < q.1 := by
        intro a ha
        obtain ⟨j, hj⟩ := List.getElem?_of_mem ha
        rw [List.getElem?_take] at hj
        split at hj
        · rename_i hj'
          exact hL j k a q hj' hj hq
        · cases hj
      refine zA_s0 rfl ?_
      repeat refine zA_step rfl rfl ?_
      rw [o2]
      refine zA_f (by simp (disch := omega) only [nu_lt, nu_le, nu_eq, nu_cmp_lt, nu_cmp_gt, nu_cmp_ge, nu_cmp_le, nu_wide, Int32.toInt_add, Int32.toInt_sub, Int32.toInt_mul, nu_I, Nat.reducePow, nu_bm, Int32.reduceToInt, Int64.reduceToInt]; omega) ?_
      repeat refine zA_step rfl rfl ?_
      refine zA_ld (j := k) rfl rfl (by omega) (by decide) q1 ?_
      refine zA_call rfl rfl (cl_age (Or.inl rfl) hC hW hY hqw ?_)
      repeat refine zA_step rfl rfl ?_
      have new : (∀ a ∈ L.take k, pa p a.1 < pa p q.1) → zA (d + 1) 15 9 [(0, .ref 64), (1, .ref 20), (2, .int (nI (pa p q.1))), (3, .int (nI q.2)), (4, .int (nI k + 1))] [] σ Q := by
        intro h
        refine ih (k + 1) (by omega) _ _ (Or.inr ⟨q, ⟨(tk_mem hq).mpr (Or.inr rfl), fun a ha => ?_⟩, rfl, rfl⟩) _ (nI_1 k)
        rcases (tk_mem hq).mp ha with ha | rfl
        · have := h a ha
          exact ⟨by omega, fun _ => by omega⟩
        · exact ⟨Nat.le_refl _, fun _ => Nat.le_refl _⟩
      have fin : (∀ a ∈ L.take k, pa p a.1 < pa p q.1) → zA (d + 1) 15 33 [(0, .ref 64), (1, .ref 20), (2, .int a), (3, .int b), (4, .int (nI k))] [] σ Q := by
        intro h
        repeat refine zA_step rfl rfl ?_
        refine zA_ld (j := k) rfl rfl (by omega) (by decide) q1 ?_
        refine zA_call rfl rfl (cl_age (Or.inl rfl) hC hW hY hqw ?_)
        repeat refine zA_step rfl rfl ?_
        refine zA_ld (j := k) rfl rfl (by omega) (by decide) q2 ?_
        repeat refine zA_step rfl rfl ?_
        exact new h
      rcases h with ⟨h, ea, eb⟩ | ⟨q', h1, ea, eb⟩
      · subst ea
        refine zA_f (by rw [nu_le, nu_NO, nu_I (by omega)]; omega) ?_
        refine fin (fun a ha => ?_)
        rw [h] at ha; simp at ha
      · subst ea eb
        have hq'w := hw q' (List.mem_of_mem_take h1.1)
        have hpa' := (hW.2.2.2.2.2.2.1 q'.1 hq'w).2.1
        by_cases c : pa p q'.1 < pa p q.1
        · refine zA_f (by simp (disch := omega) only [nu_lt, nu_le, nu_eq, nu_cmp_lt, nu_cmp_gt, nu_cmp_ge, nu_cmp_le, nu_wide, Int32.toInt_add, Int32.toInt_sub, Int32.toInt_mul, nu_I, Nat.reducePow, nu_bm, Int32.reduceToInt, Int64.reduceToInt]; omega) ?_
          refine fin (fun a ha => ?_)
          have := (h1.2 a ha).1
          omega
        · refine zA_t (by simp (disch := omega) only [nu_lt, nu_le, nu_eq, nu_cmp_lt, nu_cmp_gt, nu_cmp_ge, nu_cmp_le, nu_wide, Int32.toInt_add, Int32.toInt_sub, Int32.toInt_mul, nu_I, Nat.reducePow, nu_bm, Int32.reduceToInt, Int64.reduceToInt]; omega) ?_
          repeat refine zA_step rfl rfl ?_
          refine ih (k + 1) (by omega) _ _ (Or.inr ⟨q', ⟨(tk_mem hq).mpr (Or.inl h1.1), fun a ha => ?_⟩, rfl, rfl⟩) _ (nI_1 k)
          rcases (tk_mem hq).mp ha with ha | rfl
          · exact h1.2 a ha
          · have := hbef q' h1.1
            exact ⟨by omega, fun _ => by omega⟩
  show zA (d + 1) _ 0 [(0, .ref 64), (1, .ref 20)] [] σ Q
  repeat refine zA_step rfl rfl ?_
  exact lp L.length 0 (by omega) NO NO (Or.inl ⟨rfl, rfl, rfl⟩) 0 rfl
