/-! laySaid -/
theorem vK_le (p : paT) (s : Nat) {k : Nat} : (vK p s k).length ≤ k := by
  rw [vK_len]
  exact cn_le _ _
set_option maxHeartbeats 4000000 in
set_option maxRecDepth 100000 in
theorem mo_laySaid {d s msk Y : Nat} {σ : zSo} {Q : Option Value → zSo → Prop} {p : paT} (hM : PM (σ 74) p) (hW : paW p Y) (hY : Y ≤ 2000) (hs : s < ps p) (hm : msk < 64)
    (hQ : ∀ (σ' : zSo) S, zFr [79] σ σ' → SD σ' S → S.Pairwise (fun a b => a ≤ b) → S.Perm (fL p s msk (pw p)) → Q (some (.int (nI S.length))) σ') : zC (d + 3) 155 [.ref 70, .int (nI s), .int (nI msk)] σ Q := by
  have w6 := hW.2.2.2.2.1
  have lp : ∀ n k, k + n = pw p → ∀ (σ1 : zSo) S, zFr [79] σ σ1 → SD σ1 S → S.Pairwise (fun a b => a ≤ b) → S.Perm (fL p s msk k) → ∀ i : Int32, i = nI k → zA (d + 3) 155 5 [(0, .ref 70), (1, .int (nI s)), (2, .int (nI msk)), (3, .int (nI S.length)), (4, .int i)] [] σ1 Q := by
    intro n
    induction n with
    | zero =>
      intro k hk σ1 S hF hD hS hp i ei
      subst ei
      have : k = pw p := by omega
      subst this
      refine zA_s0 rfl ?_
      repeat refine zA_step rfl rfl ?_
      simp only [nu_c3, hF 74 (by decide), hM.2.2.1]
      refine zA_t (Int32.le_refl _) ?_
      repeat refine zA_step rfl rfl ?_
      exact zA_ret rfl (hQ σ1 S hF hD hS hp)
    | succ n ih =>
      intro k hk σ1 S hF hD hS hp i ei
      subst ei
      have hM1 : PM (σ1 74) p := by rw [hF _ (by decide)]; exact hM
      have hlen : S.length ≤ k := by
        rw [hp.length_eq]
        unfold fL
        rw [List.length_map]
        exact vK_le p s
      refine zA_s0 rfl ?_
      repeat refine zA_step rfl rfl ?_
      simp only [nu_c3, hF 74 (by decide), hM.2.2.1]
      refine zA_f (by simp (disch := omega) only [nu_lt, nu_le, nu_eq, nu_cmp_lt, nu_cmp_gt, nu_cmp_ge, nu_cmp_le, nu_wide, Int32.toInt_add, Int32.toInt_sub, Int32.toInt_mul, nu_I, Nat.reducePow, nu_bm, Int32.reduceToInt, Int64.reduceToInt]; omega) ?_
      repeat refine zA_step rfl rfl ?_
      refine zA_call rfl rfl (mo_says (Or.inl rfl) hM1 hW hY (by omega) hs ?_)
      cases hsy : sayO p k s with
      | none =>
        show zA _ _ _ _ (.int NO :: _) _ _
        repeat refine zA_step rfl rfl ?_
        refine zA_dr rfl rfl rfl ?_
        refine ih (k + 1) (by omega) σ1 S hF hD hS ?_ _ (nI_1 k)
        unfold fL
        rw [vK_n hsy]
        exact hp
      | some y =>
        have hy9 := sayO_le hW (by omega) hs hsy
        show zA _ _ _ _ (.int (nI y) :: _) _ _
        repeat refine zA_step rfl rfl ?_
        refine zA_f (nu_nI_NO (by omega)) ?_
        repeat refine zA_step rfl rfl ?_
        have hf : fL p s msk (k + 1) = fL p s msk k ++ [if msk.testBit k then 99 else y] := by
          unfold fL
          rw [vK_s hsy, List.map_append]
          rfl
        have h99 : ∀ a ∈ S, a ≤ 99 := by
          intro a ha
          have := hp.mem_iff.mp ha
          unfold fL at this
          rw [List.mem_map] at this
          obtain ⟨q, hq, e⟩ := this
          rw [← e]
          split
          · omega
          · have := vK_mem hq
            exact sayO_le hW (by omega) hs this.2
        have go : ∀ x, x ≤ 99 → (if msk.testBit k then 99 else y) = x → zA (d + 3) 155 56 [(0, .ref 70), (1, .int (nI s)), (2, .int (nI msk)), (3, .int (nI S.length)), (4, .int (nI k)), (5, .int (nI x)), (6, .int (nI S.length))] [] σ1 Q := by
          intro x hx ex
          refine mo_lay_in (σ := σ1) rfl (by omega) hx h99 hS (fun σ2 j hj hF2 hD2 hS2 => ?_) S.length (Nat.le_refl _) (by simp) σ1 zFr.rf (fun i y _ hi => hD i y hi) (fun i y h1 hi => ?_) _ rfl
          · have e : (S.take j ++ x :: S.drop j).length = S.length + 1 := by
              rw [List.length_append, List.length_cons, List.length_take, List.length_drop]; omega
            rw [← e]
            exact ih (k + 1) (by omega) σ2 _ (hF.tr hF2) hD2 hS2 (by rw [hf, ex]; exact srt_perm hp) _ rfl
          · rw [List.getElem?_eq_none h1] at hi
            cases hi
        refine zA_call rfl rfl (mo_has hm (by omega) (fun h => ?_) (fun h => ?_))
        · rw [h] at go
          repeat refine zA_step rfl rfl ?_
          exact go 99 (by omega) rfl
        · rw [h] at go
          repeat refine zA_step rfl rfl ?_
          exact go y hy9 rfl
  show zA (d + 3) _ 0 [(0, .ref 70), (1, .int (nI s)), (2, .int (nI msk))] [] σ Q
  repeat refine zA_step rfl rfl ?_
  exact lp (pw p) 0 (by omega) σ [] zFr.rf (fun i y hi => by simp at hi) List.Pairwise.nil (by simp [fL, vK]) 0 rfl
