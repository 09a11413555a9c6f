/-! shift, the pair -/
theorem nu_sub6 : ∀ x, x < 64 → ∀ y, y < 64 → nI x &&& (nI y ^^^ -1) = nI (x &&& (63 ^^^ y)) := by decide +kernel
theorem sub6_le : ∀ x, x < 64 → ∀ y, y < 64 → x &&& (63 ^^^ y) = 0 → x ≤ y := by decide +kernel
theorem sub6_of : ∀ x, x < 64 → ∀ y, y < 64 → (∀ w, w < 6 → x.testBit w = true → y.testBit w = true) → x &&& (63 ^^^ y) = 0 := by decide +kernel
theorem fL_X (p : paT) (s X : Nat) : fL p s X (pw p) = (LX X (vL p s)).map (fun q => q.2) := by
  unfold fL LX vL
  rw [List.map_map]
  apply List.map_congr_left
  intro q _
  show _ = (if X.testBit q.1 then (q.1, 99) else q).2
  split <;> rfl
theorem SD_med {S : List Nat} {L : List (Nat × Nat)} {v : Nat} (h1 : S.Pairwise (fun a b => a ≤ b)) (h2 : S.Perm (L.map (fun q => q.2))) (hv : S[L.length / 2]? = some v) : isM L v := by
  have e1 := srt_lt h1 hv v
  have e2 := srt_lt h1 hv (v + 1)
  rw [lts_srt h2] at e1 e2
  unfold isM
  omega
/-! the sets that are tried -/
def Vs (p : paT) (s k X : Nat) : Prop := X &&& (63 ^^^ bn (swb p s) (pw p)) = 0 ∧ Val p k X
def Bst (p : paT) (s k m0 : Nat) (N b : Nat) : Prop := (∀ X, X < N → Vs p s k X → ∀ v, isM (LX X (vL p s)) v → v ≤ m0 + b) ∧ (b = 0 ∨ ∃ X, Vs p s k X ∧ isM (LX X (vL p s)) (m0 + b))
set_option maxHeartbeats 4000000 in
set_option maxRecDepth 100000 in
theorem mo_kinds_lp {d s k X m0 b : Nat} {σ : zSo} {Q : Option Value → zSo → Prop} {p : paT} {Y : Nat} {w3 : Int32} (hM : PM (σ 74) p) (hW : paW p Y) (hX : X < 64) (c0 : Bool)
    (hQ : c0 = true → ∀ c : Bool, (c = true ↔ ∀ w, w < pw p → X.testBit w = true → pk p w = 2) → zA (d + 5) 169 156 [(0, .ref 70), (1, .int (nI s)), (2, .int (nI k)), (3, .int w3), (5, .int (nI m0)), (6, .int (nI b)), (7, .int (nI X)), (8, .int (nI c.toNat)), (9, .int (nI (pw p)))] [] σ Q)
    (hQ0 : c0 = false → zA (d + 5) 169 156 [(0, .ref 70), (1, .int (nI s)), (2, .int (nI k)), (3, .int w3), (5, .int (nI m0)), (6, .int (nI b)), (7, .int (nI X)), (8, .int (nI 0)), (9, .int (nI (pw p)))] [] σ Q) :
    zA (d + 5) 169 103 [(0, .ref 70), (1, .int (nI s)), (2, .int (nI k)), (3, .int w3), (5, .int (nI m0)), (6, .int (nI b)), (7, .int (nI X)), (8, .int (nI c0.toNat)), (9, .int 0)] [] σ Q := by
  have w6 := hW.2.2.2.2.1
  have lp : ∀ n i, i + n = pw p → ∀ c : Bool, (c = (c0 && decide (∀ w : Fin i, X.testBit w.val = true → pk p w.val = 2))) → ∀ ii : Int32, ii = nI i → zA (d + 5) 169 103 [(0, .ref 70), (1, .int (nI s)), (2, .int (nI k)), (3, .int w3), (5, .int (nI m0)), (6, .int (nI b)), (7, .int (nI X)), (8, .int (nI c.toNat)), (9, .int ii)] [] σ Q := by
    intro n
    induction n with
    | zero =>
      intro i hi c hc ii ei
      subst ei
      have : i = pw p := by omega
      subst this
      refine zA_s0 rfl ?_
      refine zA_s0 rfl ?_
      refine zA_s0 rfl ?_
      refine zA_s0 rfl ?_
      refine zA_s0 rfl ?_
      refine zA_s0 rfl ?_
      simp only [nu_c3, hM.2.2.1]
      refine zA_t (Int32.le_refl _) ?_
      cases c0 with
      | false => rw [Bool.false_and] at hc; subst hc; exact hQ0 rfl
      | true =>
        rw [Bool.true_and] at hc
        refine hQ rfl c ?_
        rw [hc, decide_eq_true_iff]
        exact ⟨fun h w hw => h ⟨w, hw⟩, fun h w => h w.val w.isLt⟩
    | succ n ih =>
      intro i hi c hc ii ei
      subst ei
      have hpk := (hW.2.2.2.2.2.2.1 i (by omega)).1
      have nxt : ∀ c' : Bool, (c' = (c && decide (X.testBit i = true → pk p i = 2))) → zA (d + 5) 169 103 [(0, .ref 70), (1, .int (nI s)), (2, .int (nI k)), (3, .int w3), (5, .int (nI m0)), (6, .int (nI b)), (7, .int (nI X)), (8, .int (nI c'.toNat)), (9, .int (nI i + 1))] [] σ Q := by
        intro c' e
        refine ih (i + 1) (by omega) c' ?_ _ (nI_1 i)
        rw [e, hc, Bool.and_assoc]
        congr 1
        rw [Bool.eq_iff_iff, Bool.and_eq_true, decide_eq_true_iff, decide_eq_true_iff, decide_eq_true_iff]
        constructor
        · rintro ⟨h1, h2⟩ ⟨w, hw⟩
          by_cases ew : w = i
          · subst ew; exact h2
          · exact h1 ⟨w, by omega⟩
        · intro h
          exact ⟨fun w => h ⟨w.val, by omega⟩, h ⟨i, by omega⟩⟩
      refine zA_s0 rfl ?_
      repeat refine zA_step rfl rfl ?_
      simp only [nu_c3, hM.2.2.1]
      refine zA_f (by simp (disch := omega) only [nu_lt, nu_le, nu_eq, nu_cmp_lt, nu_cmp_gt, nu_cmp_ge, nu_cmp_le, nu_wide, Int32.toInt_add, Int32.toInt_sub, Int32.toInt_mul, nu_I, Nat.reducePow, nu_bm, Int32.reduceToInt, Int64.reduceToInt]; omega) ?_
      repeat refine zA_step rfl rfl ?_
      cases c with
      | false =>
        repeat refine zA_step rfl rfl ?_
        exact nxt false (by simp)
      | true =>
        repeat refine zA_step rfl rfl ?_
        refine zA_call rfl rfl (mo_has hX (by omega) (fun h => ?_) (fun h => ?_))
        · repeat refine zA_step rfl rfl ?_
          refine zA_call rfl rfl (mo_of (k := 0) (Or.inl rfl) (by omega) (by omega) (hM.2.2.2.2.2.1 i (by omega)).1 ?_)
          repeat refine zA_step rfl rfl ?_
          by_cases e : pk p i = 2
          · rw [e]
            repeat refine zA_step rfl rfl ?_
            exact nxt true (by simp [e])
          · refine zA_f (by simp (disch := omega) only [nu_lt, nu_le, nu_eq, nu_cmp_lt, nu_cmp_gt, nu_cmp_ge, nu_cmp_le, nu_wide, Int32.toInt_add, Int32.toInt_sub, Int32.toInt_mul, nu_I, Nat.reducePow, nu_bm, Int32.reduceToInt, Int64.reduceToInt]; omega) ?_
            repeat refine zA_step rfl rfl ?_
            exact nxt false (by simp [e, h])
        · repeat refine zA_step rfl rfl ?_
          exact nxt true (by simp [h])
  exact lp (pw p) 0 (by omega) c0 (by simp) 0 rfl
