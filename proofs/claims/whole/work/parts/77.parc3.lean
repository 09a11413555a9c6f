/-! the text of a parish: the class reads -/
theorem CF.up {σ0 σ : zSo} {c j a i : Nat} {v : Int32} (h : CF σ0 σ c j) (ha : a ∈ tC) : CF σ0 (zup σ a i v) c j := by
  have hn : 18 ≠ a := by
    intro e
    subst e
    revert ha
    decide
  refine ⟨h.1.up (List.mem_cons_of_mem _ ha), ?_, ?_, fun k h1 h2 h3 => ?_⟩
  · rw [zup_o _ _ _ hn]; exact h.2.1
  · rw [zup_o _ _ _ hn]; exact h.2.2.1
  · rw [zup_o _ _ _ hn]; exact h.2.2.2 k h1 h2 h3
theorem TP.las {σ : zSo} {l l' d : Nat} {ys : List Nat} {ks : List (Nat × Nat × Nat)} (h : TP σ l d ys ks) : TP (zup σ 29 1 (nI l')) l' d ys ks := by
  obtain ⟨⟨a1, a2, a3, a4, a5⟩, b1, c1, e1, f1⟩ := h
  exact ⟨⟨by simp [zup, upd], a2, a3, a4, a5⟩, b1, c1, e1, f1⟩
theorem TP.dri {σ : zSo} {l d' d : Nat} {ys : List Nat} {ks : List (Nat × Nat × Nat)} (h : TP σ l d ys ks) : TP (zup σ 29 2 (nI d')) l d' ys ks := by
  obtain ⟨⟨a1, a2, a3, a4, a5⟩, b1, c1, e1, f1⟩ := h
  exact ⟨⟨a1, by simp [zup, upd], a3, a4, a5⟩, b1, c1, e1, f1⟩
theorem sb_pa {β : Type} {b : Nat → Nat} {n c j : Nat} {f : Nat → Sum (Nat × Nat) β} (h : ch b n j = some c) : sb (paR b n c j) f = f (j + 1) := by unfold paR; rw [if_pos h]; rfl
theorem sb_pf {β : Type} {b : Nat → Nat} {n c j : Nat} {f : Nat → Sum (Nat × Nat) β} (h : ¬ ch b n j = some c) : sb (paR b n c j) f = .inl (1, j) := by unfold paR; rw [if_neg h]; rfl
theorem sb_nu {β : Type} {b : Nat → Nat} {n lo hi j : Nat} {v : Nat × Nat} {f : Nat × Nat → Sum (Nat × Nat) β} (h : numR b n lo hi j = .inr v) : sb (nuR b n lo hi j) f = f v := by unfold nuR; rw [h]; rfl
theorem sb_nf {β : Type} {b : Nat → Nat} {n lo hi j c : Nat} {f : Nat × Nat → Sum (Nat × Nat) β} (h : numR b n lo hi j = .inl c) : sb (nuR b n lo hi j) f = .inl (c, j) := by unfold nuR; rw [h]; rfl
theorem ch_lt {b : Nat → Nat} {n j c : Nat} (h : ch b n j = some c) : j + 1 ≤ n := (ch_s.mp h).1
set_option maxHeartbeats 4000000 in
set_option maxRecDepth 100000 in
theorem cl_readLaw {d n : Nat} {b : Nat → Nat} {σ0 σ : zSo} {Q : Option Value → zSo → Prop} (hT : TC σ0 b n) (hS : CS σ0 σ 0) (hP : TP σ 1 1 [] [])
    (ht : ∀ v, lawR b n = .inr v → ∀ σ' : zSo, CS σ0 σ' v.2.2 → TP σ' v.1 v.2.1 [] [] → Q (some (.int 1)) σ') (hf : ∀ e, lawR b n = .inl e → ∀ σ' : zSo, CF σ0 σ' e.1 e.2 → Q (some (.int 0)) σ') : zC (d + 3) 48 [.ref 18, .ref 29] σ Q := by
  have hn := hT.1
  unfold lawR at ht hf
  show zA (d + 3) _ 0 [(0, .ref 18), (1, .ref 29)] [] σ Q
  repeat refine zA_step rfl rfl ?_
  refine zA_call rfl rfl (cl_passes (c := 119) hT hS (by omega) (by omega) (fun h σ1 hS1 hF1 => ?_) (fun h σ1 hF1 => ?_))
  rotate_left
  · repeat refine zA_step rfl rfl ?_
    exact zA_ret rfl (hf _ (sb_pf h) σ1 hF1)
  simp only [sb_pa h] at ht hf
  have hj1 := ch_lt h
  have hP1 := hP.tp hF1
  repeat refine zA_step rfl rfl ?_
  refine zA_call rfl rfl (cl_number (lo := 1) (hi := 30) hT hS1 hj1 (by omega) (by omega) (fun l j1 hn1 σ2 hS2 hF2 => ?_) (fun c hn1 σ2 hF2 => ?_))
  rotate_left
  · repeat refine zA_step rfl rfl ?_
    refine zA_t (show (-1 : Int32) < 0 by decide) ?_
    repeat refine zA_step rfl rfl ?_
    exact zA_ret rfl (hf _ (sb_nf hn1) _ (hF2.up (by simp)))
  simp only [sb_nu hn1] at ht hf
  have b1 := numR_pos hn1
  simp only at b1
  have hP2 := (hP1.tp hF2).las (l' := l)
  have hS2' : CS σ0 (zup σ2 29 1 (nI l)) j1 := hS2.up (by simp)
  repeat refine zA_step rfl rfl ?_
  rw [hP2.1.1]
  refine zA_f (by simp (disch := omega) only [nu_lt, nu_le, nu_eq, nu_cmp_lt, nu_cmp_gt, nu_cmp_ge, nu_cmp_le, nu_wide, Int32.toInt_add, Int32.toInt_sub, Int32.toInt_mul, nu_I, Nat.reducePow, nu_bm, Int32.reduceToInt, Int64.reduceToInt]; omega) ?_
  repeat refine zA_step rfl rfl ?_
  refine zA_call rfl rfl (cl_passes (c := 44) hT hS2' (by omega) (by omega) (fun h σ3 hS3 hF3 => ?_) (fun h σ3 hF3 => ?_))
  rotate_left
  · repeat refine zA_step rfl rfl ?_
    exact zA_ret rfl (hf _ (sb_pf h) σ3 hF3)
  simp only [sb_pa h] at ht hf
  have hj3 := ch_lt h
  have hP3 := hP2.tp hF3
  repeat refine zA_step rfl rfl ?_
  refine zA_call rfl rfl (cl_number (lo := 1) (hi := 30) hT hS3 hj3 (by omega) (by omega) (fun e j4 hn2 σ4 hS4 hF4 => ?_) (fun c hn2 σ4 hF4 => ?_))
  rotate_left
  · repeat refine zA_step rfl rfl ?_
    refine zA_t (show (-1 : Int32) < 0 by decide) ?_
    repeat refine zA_step rfl rfl ?_
    exact zA_ret rfl (hf _ (sb_nf hn2) _ (hF4.up (by simp)))
  simp only [sb_nu hn2] at ht hf
  have b2 := numR_pos hn2
  simp only at b2
  have hP4 := (hP3.tp hF4).dri (d' := e)
  have hS4' : CS σ0 (zup σ4 29 2 (nI e)) j4 := hS4.up (by simp)
  repeat refine zA_step rfl rfl ?_
  rw [hP4.1.2.1]
  refine zA_f (by simp (disch := omega) only [nu_lt, nu_le, nu_eq, nu_cmp_lt, nu_cmp_gt, nu_cmp_ge, nu_cmp_le, nu_wide, Int32.toInt_add, Int32.toInt_sub, Int32.toInt_mul, nu_I, Nat.reducePow, nu_bm, Int32.reduceToInt, Int64.reduceToInt]; omega) ?_
  repeat refine zA_step rfl rfl ?_
  refine zA_call rfl rfl (cl_passes (c := 59) hT hS4' (by omega) (by omega) (fun h σ5 hS5 hF5 => ?_) (fun h σ5 hF5 => ?_))
  rotate_left
  · repeat refine zA_step rfl rfl ?_
    exact zA_ret rfl (hf _ (sb_pf h) σ5 hF5)
  simp only [sb_pa h] at ht hf
  repeat refine zA_step rfl rfl ?_
  exact zA_ret rfl (ht _ rfl σ5 hS5 (hP4.tp hF5))
set_option maxHeartbeats 4000000 in
set_option maxRecDepth 100000 in
theorem cl_readStones {d n l e : Nat} {b : Nat → Nat} {σ0 : zSo} {Q : Option Value → zSo → Prop} (hT : TC σ0 b n) :
    ∀ u (ys : List Nat), u + ys.length = 7 → ys.length ≤ 6 → ∀ (j : Nat) (σ : zSo), j ≤ n → CS σ0 σ j → TP σ l e ys [] → (∀ v, stR b n u j ys = .inr v → ∀ σ' : zSo, CS σ0 σ' v.1 → TP σ' l e v.2 [] → Q (some (.int 1)) σ') → (∀ v, stR b n u j ys = .inl v → ∀ σ' : zSo, CF σ0 σ' v.1 v.2 → Q (some (.int 0)) σ') →
    ∀ i : Int32, i = nI ys.length → zA (d + 3) 49 2 [(0, .ref 18), (1, .ref 29), (2, .int i)] [] σ Q := by
  have hn := hT.1
  intro u
  induction u with
  | zero => intro ys hu hy6; omega
  | succ u ih =>
    intro ys hu hy6 j σ hj hS hP ht hf i ei
    subst ei
    have hT1 := hS.tc hT
    rw [stR] at ht hf
    -- it goes on here
    have go : ¬ (ys.length ≠ 0 ∧ ¬ ch b n j = some 115) → zA (d + 3) 49 27 [(0, .ref 18), (1, .ref 29), (2, .int (nI ys.length))] [] σ Q := by
      intro hc
      rw [if_neg hc] at ht hf
      by_cases h6 : ys.length = 6
      · rw [if_pos h6] at hf
        rw [h6]
        repeat refine zA_step rfl rfl ?_
        refine zA_call rfl rfl (cl_fails (c := 3) hS (fun σ2 h2 => ?_))
        exact zA_ret rfl (hf _ rfl σ2 h2)
      · rw [if_neg h6] at ht hf
        repeat refine zA_step rfl rfl ?_
        refine zA_f (by simp (disch := omega) only [nu_lt, nu_le, nu_eq, nu_cmp_lt, nu_cmp_gt, nu_cmp_ge, nu_cmp_le, nu_wide, Int32.toInt_add, Int32.toInt_sub, Int32.toInt_mul, nu_I, Nat.reducePow, nu_bm, Int32.reduceToInt, Int64.reduceToInt]; omega) ?_
        repeat refine zA_step rfl rfl ?_
        refine zA_call rfl rfl (cl_passes (c := 115) hT hS hj (by omega) (fun h σ1 hS1 hF1 => ?_) (fun h σ1 hF1 => ?_))
        rotate_left
        · repeat refine zA_step rfl rfl ?_
          exact zA_ret rfl (hf _ (sb_pf h) σ1 hF1)
        simp only [sb_pa h] at ht hf
        have hj1 := ch_lt h
        have hP1 := hP.tp hF1
        repeat refine zA_step rfl rfl ?_
        refine zA_call rfl rfl (cl_number (lo := 0) (hi := 99) hT hS1 hj1 (by omega) (by omega) (fun y j1 hn1 σ2 hS2 hF2 => ?_) (fun c hn1 σ2 hF2 => ?_))
        rotate_left
        · repeat refine zA_step rfl rfl ?_
          exact zA_ret rfl (hf _ (sb_nf hn1) _ hF2)
        simp only [sb_nu hn1] at ht hf
        have b1 := numR_pos hn1
        simp only at b1
        have hP2 := hP1.tp hF2
        repeat refine zA_step rfl rfl ?_
        refine zA_f (by simp (disch := omega) only [nu_lt, nu_le, nu_eq, nu_cmp_lt, nu_cmp_gt, nu_cmp_ge, nu_cmp_le, nu_wide, Int32.toInt_add, Int32.toInt_sub, Int32.toInt_mul, nu_I, Nat.reducePow, nu_bm, Int32.reduceToInt, Int64.reduceToInt]; omega) ?_
        repeat refine zA_step rfl rfl ?_
        refine zA_call rfl rfl (cl_passes (c := 59) hT hS2 (by omega) (by omega) (fun h σ3 hS3 hF3 => ?_) (fun h σ3 hF3 => ?_))
        rotate_left
        · repeat refine zA_step rfl rfl ?_
          exact zA_ret rfl (hf _ (sb_pf h) σ3 hF3)
        simp only [sb_pa h] at ht hf
        have hj3 := ch_lt h
        have hP3 := hP2.tp hF3
        repeat refine zA_step rfl rfl ?_
        refine zA_sto (j := ys.length) rfl rfl (by omega) (by decide) ?_
        repeat refine zA_step rfl rfl ?_
        refine zA_dr rfl rfl rfl ?_
        refine ih (ys ++ [y]) (by simp; omega) (by simp; omega) (j1 + 1) _ hj3 ((hS3.up (by simp)).up (by simp)) (hP3.addS rfl (nI_1 _)) ht hf _ ?_
        rw [nI_1]
        simp
    refine zA_s0 rfl ?_
    repeat refine zA_step rfl rfl ?_
    refine zA_f (by simp (disch := omega) only [nu_lt, nu_le, nu_eq, nu_cmp_lt, nu_cmp_gt, nu_cmp_ge, nu_cmp_le, nu_wide, Int32.toInt_add, Int32.toInt_sub, Int32.toInt_mul, nu_I, Nat.reducePow, nu_bm, Int32.reduceToInt, Int64.reduceToInt]; omega) ?_
    repeat refine zA_step rfl rfl ?_
    by_cases h0 : ys.length = 0
    · refine zA_t (by simp (disch := omega) only [nu_lt, nu_le, nu_eq, nu_cmp_lt, nu_cmp_gt, nu_cmp_ge, nu_cmp_le, nu_wide, Int32.toInt_add, Int32.toInt_sub, Int32.toInt_mul, nu_I, Nat.reducePow, nu_bm, Int32.reduceToInt, Int64.reduceToInt]; omega) ?_
      exact go (fun z => z.1 h0)
    · refine zA_f (by simp (disch := omega) only [nu_lt, nu_le, nu_eq, nu_cmp_lt, nu_cmp_gt, nu_cmp_ge, nu_cmp_le, nu_wide, Int32.toInt_add, Int32.toInt_sub, Int32.toInt_mul, nu_I, Nat.reducePow, nu_bm, Int32.reduceToInt, Int64.reduceToInt]; omega) ?_
      repeat refine zA_step rfl rfl ?_
      refine zA_call rfl rfl (cl_letterAt hT1 (j := j) (by omega) hS.2.1 ?_)
      repeat refine zA_step rfl rfl ?_
      by_cases h1 : ch b n j = some 115
      · refine zA_t ((eC_eq (c := 115) hT1 (by omega)).mpr h1) ?_
        exact go (fun z => z.2 h1)
      · refine zA_f (fun z => h1 ((eC_eq (c := 115) hT1 (by omega)).mp z)) ?_
        repeat refine zA_step rfl rfl ?_
        rw [if_pos ⟨h0, h1⟩] at ht
        exact zA_ret rfl (ht _ rfl σ hS hP)
set_option maxHeartbeats 4000000 in
set_option maxRecDepth 100000 in
theorem cl_kindTold {d n j : Nat} {b : Nat → Nat} {σ : zSo} {Q : Option Value → zSo → Prop} (hT : TC σ b n) (hQ : Q (some (.int (nI (kdO (ch b n j))))) σ) : zC d 57 [.int (eC (ch b n j))] σ Q := by
  have e : ∀ c, c < 256 → (eC (ch b n j) = nI c ↔ ch b n j = some c) := fun c hc => eC_eq hT hc
  have e1 := e 98 (by omega)
  have e2 := e 100 (by omega)
  have e3 := e 104 (by omega)
  have e4 := e 110 (by omega)
  have e5 := e 116 (by omega)
  show zA d _ 0 [(0, .int (eC (ch b n j)))] [] σ Q
  by_cases h1 : ch b n j = some 98
  · rw [h1] at hQ ⊢
    repeat refine zA_step rfl rfl ?_
    exact zA_ret rfl hQ
  by_cases h2 : ch b n j = some 100
  · rw [h2] at hQ ⊢
    repeat refine zA_step rfl rfl ?_
    exact zA_ret rfl hQ
  by_cases h3 : ch b n j = some 104
  · rw [h3] at hQ ⊢
    repeat refine zA_step rfl rfl ?_
    exact zA_ret rfl hQ
  by_cases h4 : ch b n j = some 110
  · rw [h4] at hQ ⊢
    repeat refine zA_step rfl rfl ?_
    exact zA_ret rfl hQ
  by_cases h5 : ch b n j = some 116
  · rw [h5] at hQ ⊢
    repeat refine zA_step rfl rfl ?_
    exact zA_ret rfl hQ
  unfold kdO at hQ
  rw [if_neg h3, if_neg h1, if_neg h2, if_neg h5, if_neg h4] at hQ
  repeat refine zA_step rfl rfl ?_
  refine zA_f (fun z => h1 (e1.mp z)) (zA_f (fun z => h2 (e2.mp z)) (zA_f (fun z => h3 (e3.mp z)) (zA_f (fun z => h4 (e4.mp z)) (zA_f (fun z => h5 (e5.mp z)) (zA_sw0 ?_)))))
  repeat refine zA_step rfl rfl ?_
  exact zA_ret rfl hQ
theorem TP.kn {σ : zSo} {l d k : Nat} {ys : List Nat} {ks : List (Nat × Nat × Nat)} (h : TP σ l d ys ks) : TP (zup σ 31 ks.length (nI k)) l d ys ks := by
  obtain ⟨a1, b1, c1, e1, f1⟩ := h
  refine ⟨a1, b1, fun w q hq => ?_, e1, f1⟩
  obtain ⟨g1, g2, g3⟩ := c1 w q hq
  refine ⟨?_, g2, g3⟩
  show upd (σ 31) ks.length (nI k) w = _
  simp only [upd]
  rw [if_neg (fun z => by rw [z, List.getElem?_eq_none (Nat.le_refl _)] at hq; cases hq)]
  exact g1
theorem TP.addW {σ : zSo} {l d a e k : Nat} {ys : List Nat} {ks : List (Nat × Nat × Nat)} {z : Int32} (h : TP σ l d ys ks) (hk : σ 31 ks.length = nI k) (hz : z = nI (ks.length + 1)) : TP (zup (zup (zup σ 32 ks.length (nI a)) 33 ks.length (nI e)) 29 5 z) l d ys (ks ++ [(k, a, e)]) := by
  obtain ⟨⟨a1, a2, a3, a4, a5⟩, b1, c1, e1, f1⟩ := h
  refine ⟨⟨a1, a2, a3, a4, ?_⟩, b1, fun w q hq => ?_, e1, f1⟩
  · simp [zup, upd, hz]
  · show σ 31 w = _ ∧ upd (σ 32) ks.length (nI a) w = _ ∧ upd (σ 33) ks.length (nI e) w = _
    simp only [upd]
    rcases sn_get hq with ⟨g1, g2⟩ | ⟨g1, g2⟩
    · rw [if_neg (by omega), if_neg (by omega)]
      exact c1 w q g2
    · subst g1 g2
      rw [if_pos rfl, if_pos rfl]
      exact ⟨hk, rfl, rfl⟩
set_option maxHeartbeats 4000000 in
set_option maxRecDepth 100000 in
theorem cl_readLife {d n l e k : Nat} {b : Nat → Nat} {σ0 σ : zSo} {Q : Option Value → zSo → Prop} {ys : List Nat} {ks : List (Nat × Nat × Nat)} {j : Nat} (hT : TC σ0 b n) (hS : CS σ0 σ j) (hj : j ≤ n) (hP : TP σ l e ys ks) (hl : ks.length < 6) (hk : σ 31 ks.length = nI k)
    (ht : ∀ v, lfR b n j = .inr v → ∀ σ' : zSo, CS σ0 σ' v.2.2 → (∀ z : Int32, z = nI (ks.length + 1) → TP (zup σ' 29 5 z) l e ys (ks ++ [(k, v.1, v.2.1)])) → Q (some (.int 1)) σ') (hf : ∀ v, lfR b n j = .inl v → ∀ σ' : zSo, CF σ0 σ' v.1 v.2 → Q (some (.int 0)) σ') : zC (d + 3) 51 [.ref 18, .ref 29, .int (nI ks.length)] σ Q := by
  have hn := hT.1
  unfold lfR at ht hf
  show zA (d + 3) _ 0 [(0, .ref 18), (1, .ref 29), (2, .int (nI ks.length))] [] σ Q
  repeat refine zA_step rfl rfl ?_
  refine zA_call rfl rfl (cl_number (lo := 0) (hi := 60) hT hS hj (by omega) (by omega) (fun a j1 hn1 σ1 hS1 hF1 => ?_) (fun c hn1 σ1 hF1 => ?_))
  rotate_left
  · repeat refine zA_step rfl rfl ?_
    exact zA_ret rfl (hf _ (sb_nf hn1) _ hF1)
  simp only [sb_nu hn1] at ht hf
  have b1 := numR_pos hn1
  simp only at b1
  have hP1 := hP.tp hF1
  repeat refine zA_step rfl rfl ?_
  refine zA_f (by simp (disch := omega) only [nu_lt, nu_le, nu_eq, nu_cmp_lt, nu_cmp_gt, nu_cmp_ge, nu_cmp_le, nu_wide, Int32.toInt_add, Int32.toInt_sub, Int32.toInt_mul, nu_I, Nat.reducePow, nu_bm, Int32.reduceToInt, Int64.reduceToInt]; omega) ?_
  repeat refine zA_step rfl rfl ?_
  refine zA_call rfl rfl (cl_passes (c := 44) hT hS1 (by omega) (by omega) (fun h σ2 hS2 hF2 => ?_) (fun h σ2 hF2 => ?_))
  rotate_left
  · repeat refine zA_step rfl rfl ?_
    exact zA_ret rfl (hf _ (sb_pf h) σ2 hF2)
  simp only [sb_pa h] at ht hf
  have hj2 := ch_lt h
  have hP2 := hP1.tp hF2
  repeat refine zA_step rfl rfl ?_
  rw [nI_1]
  refine zA_call rfl rfl (cl_number (lo := a + 1) (hi := 99) hT hS2 hj2 (by omega) (by omega) (fun x j3 hn3 σ3 hS3 hF3 => ?_) (fun c hn3 σ3 hF3 => ?_))
  rotate_left
  · repeat refine zA_step rfl rfl ?_
    exact zA_ret rfl (hf _ (sb_nf hn3) _ hF3)
  simp only [sb_nu hn3] at ht hf
  have b3 := numR_pos hn3
  simp only at b3
  have hP3 := hP2.tp hF3
  repeat refine zA_step rfl rfl ?_
  refine zA_f (by simp (disch := omega) only [nu_lt, nu_le, nu_eq, nu_cmp_lt, nu_cmp_gt, nu_cmp_ge, nu_cmp_le, nu_wide, Int32.toInt_add, Int32.toInt_sub, Int32.toInt_mul, nu_I, Nat.reducePow, nu_bm, Int32.reduceToInt, Int64.reduceToInt]; omega) ?_
  repeat refine zA_step rfl rfl ?_
  refine zA_call rfl rfl (cl_passes (c := 59) hT hS3 (by omega) (by omega) (fun h σ4 hS4 hF4 => ?_) (fun h σ4 hF4 => ?_))
  rotate_left
  · repeat refine zA_step rfl rfl ?_
    exact zA_ret rfl (hf _ (sb_pf h) σ4 hF4)
  simp only [sb_pa h] at ht hf
  have hP4 := hP3.tp hF4
  have hk4 : σ4 31 ks.length = nI k := by
    rw [hF4 _ (by decide), hF3 _ (by decide), hF2 _ (by decide), hF1 _ (by decide)]; exact hk
  repeat refine zA_step rfl rfl ?_
  refine zA_sto (j := ks.length) rfl rfl (by omega) (by decide) ?_
  repeat refine zA_step rfl rfl ?_
  refine zA_sto (j := ks.length) rfl rfl (by omega) (by decide) ?_
  repeat refine zA_step rfl rfl ?_
  exact zA_ret rfl (ht _ rfl _ ((hS4.up (by simp)).up (by simp)) (fun z hz => hP4.addW hk4 hz))
set_option maxHeartbeats 4000000 in
set_option maxRecDepth 100000 in
theorem cl_readWits {d n l e : Nat} {b : Nat → Nat} {σ0 : zSo} {Q : Option Value → zSo → Prop} {ys : List Nat} (hT : TC σ0 b n) :
    ∀ u (ks : List (Nat × Nat × Nat)), u + ks.length = 7 → ks.length ≤ 6 → ∀ (j : Nat) (σ : zSo), j ≤ n → CS σ0 σ j → TP σ l e ys ks → (∀ v, wiR b n u j ks = .inr v → ∀ (σ' : zSo) (j' : Nat), CS σ0 σ' j' → TP σ' l e ys v → Q (some (.int 1)) σ') → (∀ v, wiR b n u j ks = .inl v → ∀ σ' : zSo, CF σ0 σ' v.1 v.2 → Q (some (.int 0)) σ') →
    ∀ i : Int32, i = nI ks.length → zA (d + 4) 50 2 [(0, .ref 18), (1, .ref 29), (2, .int i)] [] σ Q := by
  have hn := hT.1
  intro u
  induction u with
  | zero => intro ks hu hy6; omega
  | succ u ih =>
    intro ks hu hy6 j σ hj hS hP ht hf i ei
    subst ei
    have hT1 := hS.tc hT
    rw [wiR] at ht hf
    have go : ¬ (ks.length ≠ 0 ∧ n ≤ j) → zA (d + 4) 50 25 [(0, .ref 18), (1, .ref 29), (2, .int (nI ks.length))] [] σ Q := by
      intro hc
      rw [if_neg hc] at ht hf
      repeat refine zA_step rfl rfl ?_
      refine zA_call rfl rfl (cl_letterAt hT1 (j := j) (by omega) hS.2.1 ?_)
      refine zA_call rfl rfl (cl_kindTold hT1 ?_)
      have hk5 := kdO_le (ch b n j)
      generalize hkd : kdO (ch b n j) = k at hk5 ht hf
      repeat refine zA_step rfl rfl ?_
      by_cases h0 : k = 0
      · rw [if_pos h0] at hf
        refine zA_t (by rw [h0]; rfl) ?_
        repeat refine zA_step rfl rfl ?_
        refine zA_call rfl rfl (cl_fails (c := 1) hS (fun σ2 h2 => ?_))
        exact zA_ret rfl (hf _ rfl σ2 h2)
      rw [if_neg h0] at ht hf
      refine zA_f (by simp (disch := omega) only [nu_lt, nu_le, nu_eq, nu_cmp_lt, nu_cmp_gt, nu_cmp_ge, nu_cmp_le, nu_wide, Int32.toInt_add, Int32.toInt_sub, Int32.toInt_mul, nu_I, Nat.reducePow, nu_bm, Int32.reduceToInt, Int64.reduceToInt]; omega) ?_
      repeat refine zA_step rfl rfl ?_
      have hjn : j + 1 ≤ n := by
        rcases Nat.lt_or_ge j n with c | c
        · omega
        · have : ch b n j = none := by unfold ch; rw [if_neg (by omega)]
          rw [this] at hkd
          exact absurd hkd.symm h0
      by_cases h6 : ks.length = 6
      · rw [if_pos h6] at hf
        refine zA_t (by rw [h6]; rfl) ?_
        repeat refine zA_step rfl rfl ?_
        refine zA_call rfl rfl (cl_fails (c := 3) hS (fun σ2 h2 => ?_))
        exact zA_ret rfl (hf _ rfl σ2 h2)
      rw [if_neg h6] at ht hf
      refine zA_f (by simp (disch := omega) only [nu_lt, nu_le, nu_eq, nu_cmp_lt, nu_cmp_gt, nu_cmp_ge, nu_cmp_le, nu_wide, Int32.toInt_add, Int32.toInt_sub, Int32.toInt_mul, nu_I, Nat.reducePow, nu_bm, Int32.reduceToInt, Int64.reduceToInt]; omega) ?_
      repeat refine zA_step rfl rfl ?_
      refine zA_sto (j := ks.length) rfl rfl (by omega) (by decide) ?_
      repeat refine zA_step rfl rfl ?_
      have hS1 : CS σ0 (zup (zup σ 18 2 (σ 18 2 + 1)) 31 ks.length (nI k)) (j + 1) := by
        refine CS.up ⟨hS.1.up (by simp), ?_, fun i hi => ?_⟩ (by simp)
        · rw [zup_k]
          simp only [upd, if_true]
          rw [hS.2.1, nI_1]
        · rw [zup_k]
          simp only [upd]
          rw [if_neg hi]
          exact hS.2.2 i hi
      have hP1 : TP (zup (zup σ 18 2 (σ 18 2 + 1)) 31 ks.length (nI k)) l e ys ks := TP.kn (hP.tp (zFr.rf.up (by simp)))
      refine zA_call rfl rfl (cl_readLife (k := k) hT hS1 hjn hP1 (by omega) (by simp [zup, upd]) (fun v hv σ2 hS2 hP2 => ?_) (fun v hv σ2 hF2 => ?_))
      rotate_left
      · repeat refine zA_step rfl rfl ?_
        exact zA_ret rfl (hf _ (by rw [hv]; rfl) σ2 hF2)
      repeat refine zA_step rfl rfl ?_
      refine zA_dr rfl rfl rfl ?_
      rw [hv] at ht hf
      have hv2 : v.2.2 ≤ n := by
        unfold lfR at hv
        obtain ⟨a, ha, hv⟩ := sb_ok hv
        obtain ⟨j2, -, hv⟩ := sb_ok hv
        obtain ⟨x, hx, hv⟩ := sb_ok hv
        obtain ⟨j4, h4, hv⟩ := sb_ok hv
        cases hv
        exact (paR_ok h4).2.2
      refine ih (ks ++ [(k, v.1, v.2.1)]) (by simp; omega) (by simp; omega) v.2.2 _ hv2 (hS2.up (by simp)) (hP2 _ (nI_1 _)) ht hf _ ?_
      rw [nI_1]
      simp
    refine zA_s0 rfl ?_
    repeat refine zA_step rfl rfl ?_
    refine zA_f (by simp (disch := omega) only [nu_lt, nu_le, nu_eq, nu_cmp_lt, nu_cmp_gt, nu_cmp_ge, nu_cmp_le, nu_wide, Int32.toInt_add, Int32.toInt_sub, Int32.toInt_mul, nu_I, Nat.reducePow, nu_bm, Int32.reduceToInt, Int64.reduceToInt]; omega) ?_
    repeat refine zA_step rfl rfl ?_
    by_cases h0 : ks.length = 0
    · refine zA_t (by simp (disch := omega) only [nu_lt, nu_le, nu_eq, nu_cmp_lt, nu_cmp_gt, nu_cmp_ge, nu_cmp_le, nu_wide, Int32.toInt_add, Int32.toInt_sub, Int32.toInt_mul, nu_I, Nat.reducePow, nu_bm, Int32.reduceToInt, Int64.reduceToInt]; omega) ?_
      exact go (fun z => z.1 h0)
    · refine zA_f (by simp (disch := omega) only [nu_lt, nu_le, nu_eq, nu_cmp_lt, nu_cmp_gt, nu_cmp_ge, nu_cmp_le, nu_wide, Int32.toInt_add, Int32.toInt_sub, Int32.toInt_mul, nu_I, Nat.reducePow, nu_bm, Int32.reduceToInt, Int64.reduceToInt]; omega) ?_
      repeat refine zA_step rfl rfl ?_
      rw [hS.2.1, hT1.2.1]
      by_cases h1 : n ≤ j
      · refine zA_f (by simp (disch := omega) only [nu_lt, nu_le, nu_eq, nu_cmp_lt, nu_cmp_gt, nu_cmp_ge, nu_cmp_le, nu_wide, Int32.toInt_add, Int32.toInt_sub, Int32.toInt_mul, nu_I, Nat.reducePow, nu_bm, Int32.reduceToInt, Int64.reduceToInt]; omega) ?_
        repeat refine zA_step rfl rfl ?_
        rw [if_pos ⟨h0, h1⟩] at ht
        exact zA_ret rfl (ht _ rfl σ j hS hP)
      · refine zA_t (by simp (disch := omega) only [nu_lt, nu_le, nu_eq, nu_cmp_lt, nu_cmp_gt, nu_cmp_ge, nu_cmp_le, nu_wide, Int32.toInt_add, Int32.toInt_sub, Int32.toInt_mul, nu_I, Nat.reducePow, nu_bm, Int32.reduceToInt, Int64.reduceToInt]; omega) ?_
        exact go (fun z => h1 z.2)
