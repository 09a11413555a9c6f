/-! the text of a parish: the loops of the reference -/
theorem st_step {b : Nat → Nat} {n u j : Nat} {ys : List Nat} (hc : ch b n j = some 115) : stR b n (u + 1) j ys = sb (if ys.length = 6 then (.inl (3, j) : Sum (Nat × Nat) (Nat × Nat)) else sb (nuR b n 0 99 (j + 1)) fun v => sb (paR b n 59 v.2) fun j3 => .inr (v.1, j3)) fun v => stR b n u v.2 (ys ++ [v.1]) := by
  rw [stR, if_neg (fun z => z.2 hc)]
  by_cases h : ys.length = 6
  · rw [if_pos h, if_pos h]; rfl
  · rw [if_neg h, if_neg h, sb_pa hc]
    cases h1 : nuR b n 0 99 (j + 1) with
    | inl e => rfl
    | inr v =>
      show sb (paR b n 59 v.2) _ = sb (sb (paR b n 59 v.2) _) _
      cases h2 : paR b n 59 v.2 with
      | inl e => rfl
      | inr j3 => rfl
set_option maxHeartbeats 4000000 in
set_option maxRecDepth 100000 in
theorem mo_stones {d n : Nat} {b : Nat → Nat} {σ0 : zSo} {Q : Option Value → zSo → Prop} {v0 v1 : Int32} :
    ∀ u (ys : List Nat), u + ys.length = 7 → ys.length ≤ 6 → ∀ (j : Nat) (σ τ : zSo), zFr [75] σ0 σ → TMm σ b n → XS b n σ (.inr j) τ → TQ σ ys [] → σ 75 0 = v0 ∧ σ 75 1 = v1 → (ys.length ≠ 0 ∨ ch b n j = some 115) →
    (∀ σ' τ', zFr [75] σ0 σ' → σ' 75 0 = v0 ∧ σ' 75 1 = v1 → (∀ e, stR b n u j ys = .inl e → XS b n σ' (.inl e) τ' → zA (d + 8) 128 120 [(0, .ref 70)] [] τ' Q) ∧ (∀ v, stR b n u j ys = .inr v → XS b n σ' (.inr v.1) τ' → TQ σ' v.2 [] → zA (d + 8) 128 120 [(0, .ref 70)] [] τ' Q)) → zA (d + 8) 128 104 [(0, .ref 70)] [] τ Q := by
  have exitF : ∀ (σ τ : zSo) (e : Nat × Nat), TMm σ b n → XS b n σ (.inl e) τ → zA (d + 8) 128 120 [(0, .ref 70)] [] τ Q → zA (d + 8) 128 104 [(0, .ref 70)] [] τ Q := by
    intro σ τ e hT hX K
    refine zA_s0 rfl ?_
    refine zA_s0 rfl ?_
    refine zA_call rfl rfl (mo_isLetter (x := 115) hT (by omega) hX (fun j z => by cases z) (fun _ => ?_))
    refine zA_s0 rfl ?_
    exact K
  intro u
  induction u with
  | zero => intro ys hu h6; omega
  | succ u ih =>
    intro ys hu h6 j σ τ hF hT hX hP hv hne K
    refine zA_s0 rfl ?_
    refine zA_s0 rfl ?_
    refine zA_call rfl rfl (mo_isLetter (x := 115) hT (by omega) hX (fun j' z hc => ?_) (fun hc => ?_))
    · cases z
      rw [st_step hc] at K
      repeat refine zA_step rfl rfl ?_
      refine zA_call rfl rfl (mo_readStone hT hX hc hP h6 (fun σ' τ' hF' hlo => ⟨fun e he hX' => ?_, fun v hv' hX' hP' hl => ?_⟩))
      · rw [he] at K
        repeat refine zA_step rfl rfl ?_
        exact exitF σ' τ' e (hT.fr hF') hX' ((K σ' τ' (hF.tr hF') ⟨by rw [hlo 0 (by omega)]; exact hv.1, by rw [hlo 1 (by omega)]; exact hv.2⟩).1 e rfl hX')
      · rw [hv'] at K
        repeat refine zA_step rfl rfl ?_
        exact ih (ys ++ [v.1]) (by simp; omega) (by simp; omega) v.2 σ' τ' (hF.tr hF') (hT.fr hF') hX' hP' ⟨by rw [hlo 0 (by omega)]; exact hv.1, by rw [hlo 1 (by omega)]; exact hv.2⟩ (Or.inl (by simp)) K
    · have hc' := hc j rfl
      have h0 : ys.length ≠ 0 := by
        rcases hne with h | h
        · exact h
        · exact absurd h hc'
      rw [stR, if_pos ⟨h0, hc'⟩] at K
      refine zA_s0 rfl ?_
      exact (K σ τ hF hv).2 _ rfl hX hP
theorem wi_step {b : Nat → Nat} {n u j : Nat} {ks : List (Nat × Nat × Nat)} (hk : ¬ kdO (ch b n j) = 0) : wiR b n (u + 1) j ks = sb (if ks.length = 6 then (.inl (3, j) : Sum (Nat × Nat) (Nat × Nat × Nat)) else lfR b n (j + 1)) fun v => wiR b n u v.2.2 (ks ++ [(kdO (ch b n j), v.1, v.2.1)]) := by
  have hj : ¬ n ≤ j := fun z => by
    have : ch b n j = none := by unfold ch; rw [if_neg (by omega)]
    rw [this] at hk
    exact hk rfl
  rw [wiR, if_neg (fun z => hj z.2), if_neg hk]
  by_cases h : ks.length = 6
  · rw [if_pos h, if_pos h]; rfl
  · rw [if_neg h, if_neg h]
set_option maxHeartbeats 4000000 in
set_option maxRecDepth 100000 in
theorem mo_wits {d n : Nat} {b : Nat → Nat} {σ0 : zSo} {Q : Option Value → zSo → Prop} {v0 v1 : Int32} {ys : List Nat} (hy6 : ys.length ≤ 6) :
    ∀ u (ks : List (Nat × Nat × Nat)), u + ks.length = 7 → ks.length ≤ 6 → ∀ (j : Nat) (σ τ : zSo), zFr [75] σ0 σ → TMm σ b n → XS b n σ (.inr j) τ → TQ σ ys ks → σ 75 0 = v0 ∧ σ 75 1 = v1 → (ks.length ≠ 0 ∨ ¬ kdO (ch b n j) = 0) →
    (∀ σ' τ', zFr [75] σ0 σ' → σ' 75 0 = v0 ∧ σ' 75 1 = v1 → (∀ e, wiR b n u j ks = .inl e → ∀ X, XS b n σ' X τ' → (X = .inl e ∨ ∃ j', X = .inr j' ∧ n ≠ j' ∧ e = (1, j')) → zA (d + 8) 128 146 [(0, .ref 70)] [] τ' Q) ∧ (∀ v, wiR b n u j ks = .inr v → XS b n σ' (.inr n) τ' → TQ σ' ys v → zA (d + 8) 128 146 [(0, .ref 70)] [] τ' Q)) → zA (d + 8) 128 132 [(0, .ref 70)] [] τ Q := by
  have exitF : ∀ (σ τ : zSo) (e : Nat × Nat), TMm σ b n → XS b n σ (.inl e) τ → zA (d + 8) 128 146 [(0, .ref 70)] [] τ Q → zA (d + 8) 128 132 [(0, .ref 70)] [] τ Q := by
    intro σ τ e hT hX K
    refine zA_s0 rfl ?_
    refine zA_call rfl rfl (mo_isSort hT hX (fun j z => by cases z) (fun _ => ?_))
    refine zA_s0 rfl ?_
    exact K
  intro u
  induction u with
  | zero => intro ks hu h6; omega
  | succ u ih =>
    intro ks hu h6 j σ τ hF hT hX hP hv hne K
    have hjn : j ≤ n := hX.1
    refine zA_s0 rfl ?_
    refine zA_call rfl rfl (mo_isSort hT hX (fun j' z hc => ?_) (fun hc => ?_))
    · cases z
      rw [wi_step hc] at K
      repeat refine zA_step rfl rfl ?_
      refine zA_call rfl rfl (mo_readWitness hT hX hc hP hy6 h6 (fun σ' τ' hF' hlo => ⟨fun e he hX' => ?_, fun v hv' hX' hP' hl => ?_⟩))
      · rw [he] at K
        repeat refine zA_step rfl rfl ?_
        exact exitF σ' τ' e (hT.fr hF') hX' ((K σ' τ' (hF.tr hF') ⟨by rw [hlo 0 (by omega)]; exact hv.1, by rw [hlo 1 (by omega)]; exact hv.2⟩).1 e rfl _ hX' (Or.inl rfl))
      · rw [hv'] at K
        repeat refine zA_step rfl rfl ?_
        exact ih (ks ++ [(kdO (ch b n j), v.1, v.2.1)]) (by simp; omega) (by simp; omega) v.2.2 σ' τ' (hF.tr hF') (hT.fr hF') hX' hP' ⟨by rw [hlo 0 (by omega)]; exact hv.1, by rw [hlo 1 (by omega)]; exact hv.2⟩ (Or.inl (by simp)) K
    · have hc' := hc j rfl
      have h0 : ks.length ≠ 0 := by
        rcases hne with h | h
        · exact h
        · exact absurd hc' h
      rw [wiR] at K
      refine zA_s0 rfl ?_
      by_cases hn : n ≤ j
      · rw [if_pos ⟨h0, hn⟩] at K
        have : j = n := by omega
        subst this
        exact (K σ τ hF hv).2 _ rfl hX hP
      · rw [if_neg (fun z => hn z.2), if_pos hc'] at K
        exact (K σ τ hF hv).1 _ rfl _ hX (Or.inr ⟨j, rfl, by omega, rfl⟩)
