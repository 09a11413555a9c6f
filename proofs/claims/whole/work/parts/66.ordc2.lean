/-! orders: the class counts -/
def WS (σ : zSo) (p : paT) (s lo : Nat) : Prop := ∀ S, lo < S → S < 2 ^ (vL p s).length → ∀ j, j < (vL p s).length → S.testBit j = true → σ 67 (6 * S + j) = nI (wyc p s S j)
theorem two6 {n : Nat} (h : n ≤ 6) : 2 ^ n ≤ 64 := Nat.pow_le_pow_right (n := 2) (by omega) h
theorem or_lt {S n k : Nat} (hS : S < 2 ^ n) (hk : k < n) : S ||| 2 ^ k < 2 ^ n := Nat.or_lt_two_pow hS (Nat.pow_lt_pow_right (by omega) hk)
theorem or_gt {S k : Nat} (h : S.testBit k = false) : S < S ||| 2 ^ k := by
  have h1 : S ≤ S ||| 2 ^ k := Nat.left_le_or
  have h2 : S ≠ S ||| 2 ^ k := fun e => by
    have : (S ||| 2 ^ k).testBit k = true := by rw [bit_or]; simp
    rw [← e, h] at this; cases this
  omega
theorem wyc_le {p : paT} {Y : Nat} (hW : paW p Y) (s S j : Nat) : wyc p s S j ≤ 46656 := wy_le hW.2.2.2.2.1 _ _ _
set_option maxHeartbeats 4000000 in
set_option maxRecDepth 100000 in
theorem cl_waysOn {d s Y S j : Nat} {σ : zSo} {Q : Option Value → zSo → Prop} {p : paT} (hO : OS σ (vL p s)) (hW : paW p Y) (hs : s < ps p) (hS : S < 2 ^ (vL p s).length) (hne : ¬ S = 2 ^ (vL p s).length - 1) (hj : j < (vL p s).length) (hw : WS σ p s S) (hQ : Q (some (.int (nI (wyc p s S j)))) σ) : zC (d + 1) 21 [.ref 64, .int (nI S), .int (nI j)] σ Q := by
  have hl6 := hO.1
  have hS6 : S < 64 := Nat.lt_of_lt_of_le hS (two6 hl6)
  let f : Nat → Nat := fun k => if (!S.testBit k && nr p s (gW (vL p s) k) (gW (vL p s) j)) = true then wyc p s (S ||| 2 ^ k) k else 0
  have hf : ∀ k, f k = if (!S.testBit k && nr p s (gW (vL p s) k) (gW (vL p s) j)) = true then wyc p s (S ||| 2 ^ k) k else 0 := fun _ => rfl
  have hfl : ∀ k, f k ≤ 46656 := fun k => by
    rw [hf]
    split
    · exact wyc_le hW s _ _
    · omega
  have lp : ∀ m k, k + m = (vL p s).length → ∀ i : Int32, i = nI k → zA (d + 1) 21 5 [(0, .ref 64), (1, .int (nI S)), (2, .int (nI j)), (3, .int (nI (sm f k))), (4, .int i)] [] σ Q := by
    intro m
    induction m with
    | zero =>
      intro k hk i ei
      subst ei
      have : k = (vL p s).length := by omega
      subst this
      refine zA_s0 rfl ?_
      repeat refine zA_step rfl rfl ?_
      rw [hO.2.1]
      refine zA_t (Int32.le_refl _) ?_
      repeat refine zA_step rfl rfl ?_
      rw [wyc_rec hW hs hS, if_neg hne] at hQ
      exact zA_ret rfl hQ
    | succ m ih =>
      intro k hk i ei
      subst ei
      have hle : sm f k ≤ k * 46656 := sm_le (fun j _ => hfl j)
      have nx : ∀ v : Int32, v = nI (sm f k + f k) → zA (d + 1) 21 5 [(0, .ref 64), (1, .int (nI S)), (2, .int (nI j)), (3, .int v), (4, .int (nI k + 1))] [] σ Q := fun v hv => by
        rw [hv]
        exact ih (k + 1) (by omega) _ (nI_1 k)
      refine zA_s0 rfl ?_
      repeat refine zA_step rfl rfl ?_
      rw [hO.2.1]
      refine zA_f (by simp (disch := omega) only [nu_lt, nu_le, nu_eq, nu_cmp_lt, nu_cmp_gt, nu_cmp_ge, nu_cmp_le, nu_wide, Int32.toInt_add, Int32.toInt_sub, Int32.toInt_mul, nu_I, Nat.reducePow, nu_bm, Int32.reduceToInt, Int64.reduceToInt]; omega) ?_
      repeat refine zA_step rfl rfl ?_
      rw [nu_bit S hS6 k (by omega)]
      cases hb : S.testBit k with
      | true =>
        repeat refine zA_step rfl rfl ?_
        exact nx _ (by rw [hf, hb]; simp)
      | false =>
        repeat refine zA_step rfl rfl ?_
        refine zA_call rfl rfl (cl_areNear hO hW hs hj (by omega) (fun h => ?_) (fun h => ?_))
        · have h1 := or_lt hS (show k < (vL p s).length by omega)
          have h2 := or_gt hb
          have h3 : S ||| 2 ^ k < 64 := Nat.lt_of_lt_of_le h1 (two6 hl6)
          repeat refine zA_step rfl rfl ?_
          rw [nu_shl k (by omega), nu_or]
          refine zA_ld (j := 6 * (S ||| 2 ^ k) + k) rfl (by rw [nu_eq]; simp (disch := omega) only [Int32.toInt_add, Int32.toInt_sub, Int32.toInt_mul, nu_I, Nat.reducePow, nu_bm, Int32.reduceToInt, Int64.reduceToInt]; omega) (by omega) (by decide) (hw _ h2 h1 k (by omega) (by rw [bit_or]; simp)) ?_
          repeat refine zA_step rfl rfl ?_
          refine nx _ ?_
          rw [nI_add, hf, hb, h]
          simp
        · repeat refine zA_step rfl rfl ?_
          refine nx _ ?_
          rw [hf, hb, h]
          simp
  show zA (d + 1) _ 0 [(0, .ref 64), (1, .int (nI S)), (2, .int (nI j))] [] σ Q
  repeat refine zA_step rfl rfl ?_
  exact lp (vL p s).length 0 (by omega) 0 rfl
set_option maxHeartbeats 4000000 in
set_option maxRecDepth 100000 in
theorem cl_countOrders {d s Y : Nat} {σ : zSo} {Q : Option Value → zSo → Prop} {p : paT} (hO : OS σ (vL p s)) (hW : paW p Y) (hs : s < ps p) (hQ : ∀ σ' : zSo, zFr [67] σ σ' → WS σ' p s 0 → Q none σ') : zC (d + 2) 20 [.ref 64] σ Q := by
  have hl6 := hO.1
  have h64 := two6 hl6
  have hpos : 0 < 2 ^ (vL p s).length := Nat.pow_pos (by omega)
  have kO : ∀ σ1 : zSo, zFr [67] σ σ1 → OS σ1 (vL p s) := fun σ1 hF => by
    unfold OS
    rw [hF 64 (by decide), hF 65 (by decide), hF 66 (by decide)]
    exact hO
  have lin : ∀ S, 0 < S → S < 2 ^ (vL p s).length → (∀ σ2 : zSo, zFr [67] σ σ2 → WS σ2 p s (S - 1) → ∀ i : Int32, i = nI (S - 1) → zA (d + 2) 20 11 [(0, .ref 64), (1, .int (nI (2 ^ (vL p s).length - 1))), (2, .int i)] [] σ2 Q) →
      ∀ m k, k + m = (vL p s).length → ∀ σ1 : zSo, zFr [67] σ σ1 → WS σ1 p s S → (∀ j, j < k → S.testBit j = true → σ1 67 (6 * S + j) = nI (wyc p s S j)) → ∀ i : Int32, i = nI k → zA (d + 2) 20 17 [(0, .ref 64), (1, .int (nI (2 ^ (vL p s).length - 1))), (2, .int (nI S)), (3, .int i)] [] σ1 Q := by
    intro S h0 hS K m
    have hS6 : S < 64 := by omega
    induction m with
    | zero =>
      intro k hk σ1 hF hw hd i ei
      subst ei
      have : k = (vL p s).length := by omega
      subst this
      refine zA_s0 rfl ?_
      repeat refine zA_step rfl rfl ?_
      rw [(kO σ1 hF).2.1]
      refine zA_t (Int32.le_refl _) ?_
      repeat refine zA_step rfl rfl ?_
      refine zA_dr rfl rfl rfl ?_
      refine K σ1 hF (fun T h1 h2 j hj hb => ?_) _ (by rw [nu_eq]; simp (disch := omega) only [Int32.toInt_add, Int32.toInt_sub, Int32.toInt_mul, nu_I, Nat.reducePow, nu_bm, Int32.reduceToInt, Int64.reduceToInt]; omega)
      by_cases e : T = S
      · subst e; exact hd j hj hb
      · exact hw T (by omega) h2 j hj hb
    | succ m ih =>
      intro k hk σ1 hF hw hd i ei
      subst ei
      have hO1 := kO σ1 hF
      have put : ∀ v : Int32, S.testBit k = true → v = nI (wyc p s S k) → zA (d + 2) 20 17 [(0, .ref 64), (1, .int (nI (2 ^ (vL p s).length - 1))), (2, .int (nI S)), (3, .int (nI k + 1))] [] (zup σ1 67 (6 * S + k) v) Q := by
        intro v hb hv
        refine ih (k + 1) (by omega) _ (hF.up (by simp)) (fun T h1 h2 j hj hb => ?_) (fun j hj hb => ?_) _ (nI_1 k)
        · rw [zup_k]
          simp only [upd]
          rw [if_neg (by omega)]
          exact hw T h1 h2 j hj hb
        · rw [zup_k]
          simp only [upd]
          by_cases e : j = k
          · subst e; rw [if_pos rfl]; exact hv
          · rw [if_neg (by omega)]
            exact hd j (by omega) hb
      refine zA_s0 rfl ?_
      repeat refine zA_step rfl rfl ?_
      rw [hO1.2.1]
      refine zA_f (by simp (disch := omega) only [nu_lt, nu_le, nu_eq, nu_cmp_lt, nu_cmp_gt, nu_cmp_ge, nu_cmp_le, nu_wide, Int32.toInt_add, Int32.toInt_sub, Int32.toInt_mul, nu_I, Nat.reducePow, nu_bm, Int32.reduceToInt, Int64.reduceToInt]; omega) ?_
      repeat refine zA_step rfl rfl ?_
      rw [nu_bit S hS6 k (by omega)]
      cases hb : S.testBit k with
      | false =>
        repeat refine zA_step rfl rfl ?_
        refine ih (k + 1) (by omega) σ1 hF hw (fun j hj hb2 => ?_) _ (nI_1 k)
        by_cases e : j = k
        · subst e; rw [hb] at hb2; cases hb2
        · exact hd j (by omega) hb2
      | true =>
        repeat refine zA_step rfl rfl ?_
        by_cases e : S = 2 ^ (vL p s).length - 1
        · refine zA_t (by rw [e]) ?_
          repeat refine zA_step rfl rfl ?_
          refine zA_sto (j := 6 * S + k) rfl (by rw [nu_eq]; simp (disch := omega) only [Int32.toInt_add, Int32.toInt_sub, Int32.toInt_mul, nu_I, Nat.reducePow, nu_bm, Int32.reduceToInt, Int64.reduceToInt]; omega) (by omega) (by decide) ?_
          repeat refine zA_step rfl rfl ?_
          refine put 1 hb ?_
          rw [wyc_rec hW hs hS, if_pos e]
          rfl
        · refine zA_f (by simp (disch := omega) only [nu_lt, nu_le, nu_eq, nu_cmp_lt, nu_cmp_gt, nu_cmp_ge, nu_cmp_le, nu_wide, Int32.toInt_add, Int32.toInt_sub, Int32.toInt_mul, nu_I, Nat.reducePow, nu_bm, Int32.reduceToInt, Int64.reduceToInt]; omega) ?_
          repeat refine zA_step rfl rfl ?_
          refine zA_call rfl rfl (cl_waysOn hO1 hW hs hS e (by omega) hw ?_)
          refine zA_sto (j := 6 * S + k) rfl (by rw [nu_eq]; simp (disch := omega) only [Int32.toInt_add, Int32.toInt_sub, Int32.toInt_mul, nu_I, Nat.reducePow, nu_bm, Int32.reduceToInt, Int64.reduceToInt]; omega) (by omega) (by decide) ?_
          repeat refine zA_step rfl rfl ?_
          exact put _ hb rfl
  have lp : ∀ S, S < 2 ^ (vL p s).length → ∀ σ1 : zSo, zFr [67] σ σ1 → WS σ1 p s S → ∀ i : Int32, i = nI S → zA (d + 2) 20 11 [(0, .ref 64), (1, .int (nI (2 ^ (vL p s).length - 1))), (2, .int i)] [] σ1 Q := by
    intro S
    induction S with
    | zero =>
      intro hS σ1 hF hw i ei
      subst ei
      refine zA_s0 rfl ?_
      repeat refine zA_step rfl rfl ?_
      exact zA_ret rfl (hQ σ1 hF hw)
    | succ S ih =>
      intro hS σ1 hF hw i ei
      subst ei
      refine zA_s0 rfl ?_
      repeat refine zA_step rfl rfl ?_
      refine zA_f (by simp (disch := omega) only [nu_lt, nu_le, nu_eq, nu_cmp_lt, nu_cmp_gt, nu_cmp_ge, nu_cmp_le, nu_wide, Int32.toInt_add, Int32.toInt_sub, Int32.toInt_mul, nu_I, Nat.reducePow, nu_bm, Int32.reduceToInt, Int64.reduceToInt]; omega) ?_
      repeat refine zA_step rfl rfl ?_
      exact lin (S + 1) (by omega) hS (fun σ2 hF2 hw2 i ei => ih (by omega) σ2 hF2 hw2 i ei) (vL p s).length 0 (by omega) σ1 hF hw (fun j hj => by omega) 0 rfl
  show zA (d + 2) _ 0 [(0, .ref 64)] [] σ Q
  repeat refine zA_step rfl rfl ?_
  rw [hO.2.1, nu_every (vL p s).length (by omega)]
  exact lp (2 ^ (vL p s).length - 1) (by omega) σ zFr.rf (fun S h1 h2 => by omega) _ rfl
