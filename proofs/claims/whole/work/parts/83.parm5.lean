/-! the text of a parish: a stone, a witness of the reference -/
theorem zFr_f1 {σ σ' : zSo} {i : Nat} {x : Int32} (h : zFr [75] σ σ') : zFr [75] σ (zup σ' 75 i x) := h.up (by simp)
set_option maxHeartbeats 4000000 in
set_option maxRecDepth 100000 in
theorem mo_readStone {d n j : Nat} {b : Nat → Nat} {σ τ : zSo} {Q : Option Value → zSo → Prop} {ys : List Nat} {ks : List (Nat × Nat × Nat)} (hT : TMm σ b n) (hX : XS b n σ (.inr j) τ) (hc : ch b n j = some 115) (hP : TQ σ ys ks) (h6 : ys.length ≤ 6)
    (hQ : ∀ (σ' τ' : zSo), zFr [75] σ σ' → (∀ i, i < 2 → σ' 75 i = σ 75 i) → (∀ e, (if ys.length = 6 then (.inl (3, j) : Sum (Nat × Nat) (Nat × Nat)) else sb (nuR b n 0 99 (j + 1)) fun v => sb (paR b n 59 v.2) fun j3 => .inr (v.1, j3)) = .inl e → XS b n σ' (.inl e) τ' → Q none τ') ∧ (∀ v, (if ys.length = 6 then (.inl (3, j) : Sum (Nat × Nat) (Nat × Nat)) else sb (nuR b n 0 99 (j + 1)) fun v => sb (paR b n 59 v.2) fun j3 => .inr (v.1, j3)) = .inr v → XS b n σ' (.inr v.2) τ' → TQ σ' (ys ++ [v.1]) ks → ys.length < 6 → Q none τ')) : zC (d + 6) 126 [.ref 70] τ Q := by
  have w2 : τ 75 2 = nI ys.length := by rw [XS_o hX (by decide)]; exact hP.1
  -- from the letter on
  have go : ∀ (τ1 : zSo) (X1 : Sum (Nat × Nat) Nat), XS b n σ X1 τ1 → (X1 = if ys.length = 6 then .inl (3, j) else .inr j) → zA (d + 6) 126 16 [(0, .ref 70)] [] τ1 Q := by
    intro τ1 X1 hX1 e1
    repeat refine zA_step rfl rfl ?_
    refine zA_call rfl rfl (mo_must (x := 115) hT (by omega) hX1 (fun _ _ _ => rfl) (fun j' e hn => ?_) (fun τ2 hX2 => ?_))
    · rw [e1] at e
      split at e
      · cases e
      · cases e; exact absurd hc hn
    repeat refine zA_step rfl rfl ?_
    refine zA_call rfl rfl (mo_num (lo := 0) (hi := 99) hT (by omega) (by omega) hX2 (fun τ3 y hX3 hy hyv => ?_))
    repeat refine zA_step rfl rfl ?_
    refine zA_call rfl rfl (mo_mustSign (x := 59) hT (Or.inr rfl) hX3 (fun τ4 hX4 => ?_))
    by_cases hl : ys.length = 6
    · have hX4' : XS b n σ (.inl (3, j)) τ4 := by
        rw [e1, if_pos hl] at hX4
        exact hX4
      repeat refine zA_step rfl rfl ?_
      refine zA_f (XS_e hX4') ?_
      exact zA_ret rfl ((hQ σ τ4 zFr.rf (fun _ _ => rfl)).1 _ (by rw [if_pos hl]) hX4')
    · rw [if_neg hl] at e1
      subst e1
      have e2 : sb (.inr j) (paR b n 115) = .inr (j + 1) := by
        show paR b n 115 j = _
        unfold paR
        rw [if_pos hc]
      rw [e2] at hX4 hyv
      cases h1 : numR b n 0 99 (j + 1) with
      | inl c =>
        have hX4' : XS b n σ (.inl (c, j + 1)) τ4 := by
          have : sb (nuX b n 0 99 (.inr (j + 1))) (paR b n 59) = .inl (c, j + 1) := by
            show sb (sb (nuR b n 0 99 (j + 1)) _) _ = _
            rw [sb_nf h1]
            rfl
          rw [this] at hX4; exact hX4
        repeat refine zA_step rfl rfl ?_
        refine zA_f (XS_e hX4') ?_
        exact zA_ret rfl ((hQ σ τ4 zFr.rf (fun _ _ => rfl)).1 _ (by rw [if_neg hl, sb_nf h1]) hX4')
      | inr v =>
        have hyy : y = v.1 := hyv (j + 1) v rfl (by unfold nuR; rw [h1])
        by_cases h2 : ch b n v.2 = some 59
        · have hX4' : XS b n σ (.inr (v.2 + 1)) τ4 := by
            have : sb (nuX b n 0 99 (.inr (j + 1))) (paR b n 59) = .inr (v.2 + 1) := by
              show sb (sb (nuR b n 0 99 (j + 1)) _) _ = _
              rw [sb_nu h1]
              show paR b n 59 v.2 = _
              unfold paR
              rw [if_pos h2]
            rw [this] at hX4; exact hX4
          have w2' : τ4 75 2 = nI ys.length := by rw [XS_o hX4' (by decide)]; exact hP.1
          repeat refine zA_step rfl rfl ?_
          refine zA_t (XS_0 hX4') ?_
          repeat refine zA_step rfl rfl ?_
          simp only [nu_c2, w2']
          refine zA_sto (j := 5 + ys.length) rfl (by rw [show (5 : Int32) = nI 5 from rfl, nI_add]) (by omega) (by decide) ?_
          repeat refine zA_step rfl rfl ?_
          have e5 : zup τ4 75 (5 + ys.length) (nI y) 75 2 = nI ys.length := by
            rw [zup_k]; simp only [upd]; rw [if_neg (by omega)]; exact w2'
          simp only [nu_c2, e5]
          refine zA_ret rfl ((hQ (zup (zup σ 75 (5 + ys.length) (nI y)) 75 2 (nI ys.length + 1)) _ (zFr_f1 (zFr_f1 zFr.rf)) (fun i hi => ?_)).2 (v.1, v.2 + 1) ?_ ((hX4'.fr _ _).fr _ _) (hP.addS (by omega) (by rw [hyy]) (nI_1 _)) (by omega))
          · rw [zup_k]; simp only [upd]; rw [if_neg (by omega), zup_k]; simp only [upd]; rw [if_neg (by omega)]
          · rw [if_neg hl, sb_nu h1, sb_pa h2]
        · have hX4' : XS b n σ (.inl (1, v.2)) τ4 := by
            have : sb (nuX b n 0 99 (.inr (j + 1))) (paR b n 59) = .inl (1, v.2) := by
              show sb (sb (nuR b n 0 99 (j + 1)) _) _ = _
              rw [sb_nu h1]
              show paR b n 59 v.2 = _
              unfold paR
              rw [if_neg h2]
            rw [this] at hX4; exact hX4
          repeat refine zA_step rfl rfl ?_
          refine zA_f (XS_e hX4') ?_
          exact zA_ret rfl ((hQ σ τ4 zFr.rf (fun _ _ => rfl)).1 _ (by rw [if_neg hl, sb_nu h1, sb_pf h2]) hX4')
  show zA (d + 6) _ 0 [(0, .ref 70)] [] τ Q
  repeat refine zA_step rfl rfl ?_
  simp only [nu_c2, w2]
  by_cases hl : ys.length = 6
  · refine zA_t (by rw [hl]; rfl) ?_
    repeat refine zA_step rfl rfl ?_
    refine zA_call rfl rfl (mo_bad (k := 3) (by omega) hX (fun τ1 hX1 => ?_))
    exact go τ1 (.inl (3, j)) hX1 (by rw [if_pos hl])
  · refine zA_f (by simp (disch := omega) only [nu_lt, nu_le, nu_eq, nu_cmp_lt, nu_cmp_gt, nu_cmp_ge, nu_cmp_le, nu_wide, Int32.toInt_add, Int32.toInt_sub, Int32.toInt_mul, nu_I, Nat.reducePow, nu_bm, Int32.reduceToInt, Int64.reduceToInt]; omega) ?_
    exact go τ (.inr j) hX (by rw [if_neg hl])
