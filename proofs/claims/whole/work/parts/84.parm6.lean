/-! the text of a parish: a witness of the reference -/
theorem lf_chain {b : Nat → Nat} {n j a : Nat} (ha : ∀ v, nuR b n 0 60 j = .inr v → a = v.1) : sb (nuX b n (a + 1) 99 (sb (nuX b n 0 60 (.inr j)) (paR b n 44))) (paR b n 59) = sb (lfR b n j) fun v => .inr v.2.2 := by
  unfold lfR
  show sb (nuX b n (a + 1) 99 (sb (sb (nuR b n 0 60 j) _) (paR b n 44))) (paR b n 59) = _
  cases h1 : nuR b n 0 60 j with
  | inl e => rfl
  | inr v =>
    have := ha v h1
    subst this
    show sb (nuX b n (v.1 + 1) 99 (paR b n 44 v.2)) (paR b n 59) = sb (sb (paR b n 44 v.2) _) _
    cases h2 : paR b n 44 v.2 with
    | inl e => rfl
    | inr j2 =>
      show sb (sb (nuR b n (v.1 + 1) 99 j2) _) (paR b n 59) = sb (sb (nuR b n (v.1 + 1) 99 j2) _) _
      cases h3 : nuR b n (v.1 + 1) 99 j2 with
      | inl e => rfl
      | inr u =>
        show paR b n 59 u.2 = sb (sb (paR b n 59 u.2) _) _
        cases h4 : paR b n 59 u.2 with
        | inl e => rfl
        | inr j4 => rfl
theorem lf_vals {b : Nat → Nat} {n j a g : Nat} (ha : ∀ v, nuR b n 0 60 j = .inr v → a = v.1) (hg : ∀ j2 v, sb (nuX b n 0 60 (.inr j)) (paR b n 44) = .inr j2 → nuR b n (a + 1) 99 j2 = .inr v → g = v.1) {v : Nat × Nat × Nat} (h : lfR b n j = .inr v) : a = v.1 ∧ g = v.2.1 := by
  unfold lfR at h
  obtain ⟨x, h1, h⟩ := sb_ok h
  obtain ⟨j2, h2, h⟩ := sb_ok h
  obtain ⟨u, h3, h⟩ := sb_ok h
  obtain ⟨j4, h4, h⟩ := sb_ok h
  have hax := ha x h1
  cases h
  refine ⟨hax, hg j2 u ?_ (by rw [hax]; exact h3)⟩
  show sb (sb (nuR b n 0 60 j) _) (paR b n 44) = _
  rw [h1]
  exact h2
theorem TK_val {b : Nat → Nat} {n j : Nat} {c t v : Int32} (h : TK b n j c t v) (hb : ∀ i, i < n → b i < 256) (hk : ¬ kdO (ch b n j) = 0) : ∃ y, ch b n j = some y ∧ (97 ≤ y ∧ y ≤ 122) ∧ v = nI y := by
  cases hc : ch b n j with
  | none => rw [hc] at hk; exact absurd rfl hk
  | some y =>
    rw [hc] at hk
    have hl := kd_let hk
    exact ⟨y, rfl, hl, ((TK_let (x := y) h hb hl).1.mpr hc).2⟩
set_option maxHeartbeats 4000000 in
set_option maxRecDepth 100000 in
theorem mo_readWitness {d n j : Nat} {b : Nat → Nat} {σ τ : zSo} {Q : Option Value → zSo → Prop} {ys : List Nat} {ks : List (Nat × Nat × Nat)} (hT : TMm σ b n) (hX : XS b n σ (.inr j) τ) (hc : ¬ kdO (ch b n j) = 0) (hP : TQ σ ys ks) (hy6 : ys.length ≤ 6) (h6 : ks.length ≤ 6)
    (hQ : ∀ (σ' τ' : zSo), zFr [75] σ σ' → (∀ i, i < 2 → σ' 75 i = σ 75 i) → (∀ e, (if ks.length = 6 then (.inl (3, j) : Sum (Nat × Nat) (Nat × Nat × Nat)) else lfR b n (j + 1)) = .inl e → XS b n σ' (.inl e) τ' → Q none τ') ∧ (∀ v, (if ks.length = 6 then (.inl (3, j) : Sum (Nat × Nat) (Nat × Nat × Nat)) else lfR b n (j + 1)) = .inr v → XS b n σ' (.inr v.2.2) τ' → TQ σ' ys (ks ++ [(kdO (ch b n j), v.1, v.2.1)]) → ks.length < 6 → Q none τ')) : zC (d + 6) 127 [.ref 70] τ Q := by
  have hb : ∀ i, i < n → b i < 256 := fun i hi => (hT.2.2 i hi).2
  have w3 : τ 75 3 = nI ks.length := by rw [XS_o hX (by decide)]; exact hP.2.1
  have hval : ∃ y, ch b n j = some y ∧ (97 ≤ y ∧ y ≤ 122) ∧ τ 70 15 = nI y := by
    obtain ⟨hj, c, t, v, a, hk, rfl⟩ := id hX
    exact TK_val hk hb hc
  obtain ⟨y, hcy, hyl, hvy⟩ := hval
  have hk5 := kdO_le (ch b n j)
  generalize hkk : kdO (ch b n j) = k at *
  have go : ∀ (τ1 : zSo) (X1 : Sum (Nat × Nat) Nat), XS b n σ X1 τ1 → (X1 = if ks.length = 6 then .inl (3, j) else .inr j) → zA (d + 6) 127 24 [(0, .ref 70), (1, .int (nI k))] [] τ1 Q := by
    intro τ1 X1 hX1 e1
    repeat refine zA_step rfl rfl ?_
    refine zA_call rfl rfl (mo_must (x := y) hT hyl hX1 (fun _ _ _ => rfl) (fun j' e hn => ?_) (fun τ2 hX2 => ?_))
    · rw [e1] at e
      split at e
      · cases e
      · cases e; exact absurd hcy hn
    repeat refine zA_step rfl rfl ?_
    refine zA_call rfl rfl (mo_num (lo := 0) (hi := 60) hT (by omega) (by omega) hX2 (fun τ3 a hX3 ha hav => ?_))
    repeat refine zA_step rfl rfl ?_
    refine zA_call rfl rfl (mo_mustSign (x := 44) hT (Or.inl rfl) hX3 (fun τ4 hX4 => ?_))
    repeat refine zA_step rfl rfl ?_
    rw [nI_1]
    refine zA_call rfl rfl (mo_num (lo := a + 1) (hi := 99) hT (by omega) (by omega) hX4 (fun τ5 g hX5 hg hgv => ?_))
    repeat refine zA_step rfl rfl ?_
    refine zA_call rfl rfl (mo_mustSign (x := 59) hT (Or.inr rfl) hX5 (fun τ6 hX6 => ?_))
    by_cases hl : ks.length = 6
    · have hX6' : XS b n σ (.inl (3, j)) τ6 := by
        rw [e1, if_pos hl] at hX6
        exact hX6
      repeat refine zA_step rfl rfl ?_
      refine zA_f (XS_e hX6') ?_
      exact zA_ret rfl ((hQ σ τ6 zFr.rf (fun _ _ => rfl)).1 _ (by rw [if_pos hl]) hX6')
    · rw [if_neg hl] at e1
      subst e1
      have e2 : sb (.inr j) (paR b n y) = .inr (j + 1) := by
        show paR b n y j = _
        unfold paR
        rw [if_pos hcy]
      rw [e2] at hX6 hav hgv
      have hav' : ∀ v, nuR b n 0 60 (j + 1) = .inr v → a = v.1 := fun v hv => hav (j + 1) v rfl hv
      rw [lf_chain hav'] at hX6
      cases h1 : lfR b n (j + 1) with
      | inl e =>
        rw [h1] at hX6
        have hX6' : XS b n σ (.inl e) τ6 := hX6
        repeat refine zA_step rfl rfl ?_
        refine zA_f (XS_e hX6') ?_
        exact zA_ret rfl ((hQ σ τ6 zFr.rf (fun _ _ => rfl)).1 _ (by rw [if_neg hl, h1]) hX6')
      | inr v =>
        obtain ⟨v1, v2⟩ := lf_vals hav' hgv h1
        rw [h1] at hX6
        have hX6' : XS b n σ (.inr v.2.2) τ6 := hX6
        have w3' : τ6 75 3 = nI ks.length := by rw [XS_o hX6' (by decide)]; exact hP.2.1
        have ei : (11 : Int32) + 4 * nI ks.length = nI (11 + 4 * ks.length) := (by rw [nu_eq]; simp (disch := omega) only [Int32.toInt_add, Int32.toInt_sub, Int32.toInt_mul, nu_I, Nat.reducePow, nu_bm, Int32.reduceToInt, Int64.reduceToInt]; omega)
        repeat refine zA_step rfl rfl ?_
        refine zA_t (XS_0 hX6') ?_
        repeat refine zA_step rfl rfl ?_
        simp only [nu_c3, w3', ei]
        refine zA_sto (j := 11 + 4 * ks.length) rfl rfl (by omega) (by decide) ?_
        repeat refine zA_step rfl rfl ?_
        refine zA_sto (j := 11 + 4 * ks.length + 1) rfl (nI_1 _) (by omega) (by decide) ?_
        repeat refine zA_step rfl rfl ?_
        refine zA_sto (j := 11 + 4 * ks.length + 2) rfl (by rw [show (2 : Int32) = nI 2 from rfl, nI_add]) (by omega) (by decide) ?_
        repeat refine zA_step rfl rfl ?_
        have e5 : zup (zup (zup τ6 75 (11 + 4 * ks.length) (nI k)) 75 (11 + 4 * ks.length + 1) (nI a)) 75 (11 + 4 * ks.length + 2) (nI g) 75 3 = nI ks.length := by
          rw [zup_k]; simp only [upd]; rw [if_neg (by omega), zup_k]; simp only [upd]; rw [if_neg (by omega), zup_k]; simp only [upd]; rw [if_neg (by omega)]; exact w3'
        simp only [nu_c3, e5]
        refine zA_ret rfl ((hQ (zup (zup (zup (zup σ 75 (11 + 4 * ks.length) (nI k)) 75 (11 + 4 * ks.length + 1) (nI a)) 75 (11 + 4 * ks.length + 2) (nI g)) 75 3 (nI ks.length + 1)) _ (zFr_f1 (zFr_f1 (zFr_f1 (zFr_f1 zFr.rf)))) (fun i hi => ?_)).2 v ?_ ((((hX6'.fr _ _).fr _ _).fr _ _).fr _ _) ?_ (by omega))
        · rw [zup_k]; simp only [upd]; rw [if_neg (by omega), zup_k]; simp only [upd]; rw [if_neg (by omega), zup_k]; simp only [upd]; rw [if_neg (by omega), zup_k]; simp only [upd]; rw [if_neg (by omega)]
        · rw [if_neg hl, h1]
        · rw [← v1, ← v2]
          exact hP.addW hy6 (by omega) (nI_1 _)
  show zA (d + 6) _ 0 [(0, .ref 70)] [] τ Q
  repeat refine zA_step rfl rfl ?_
  refine zA_call rfl rfl (mo_kindBy ?_)
  rw [hvy, kdI_eq (by omega), ← hcy, hkk, if_neg hc]
  repeat refine zA_step rfl rfl ?_
  simp only [nu_c3, w3]
  by_cases hl : ks.length = 6
  · refine zA_t (by rw [hl]; rfl) ?_
    repeat refine zA_step rfl rfl ?_
    refine zA_call rfl rfl (mo_bad (k := 3) (by omega) hX (fun τ1 hX1 => ?_))
    exact go τ1 (.inl (3, j)) hX1 (by rw [if_pos hl])
  · refine zA_f (by simp (disch := omega) only [nu_lt, nu_le, nu_eq, nu_cmp_lt, nu_cmp_gt, nu_cmp_ge, nu_cmp_le, nu_wide, Int32.toInt_add, Int32.toInt_sub, Int32.toInt_mul, nu_I, Nat.reducePow, nu_bm, Int32.reduceToInt, Int64.reduceToInt]; omega) ?_
    exact go τ (.inr j) hX (by rw [if_neg hl])
