/-! orders: the class answers -/
def oT (p : paT) (s : Nat) : Nat := sm (fun v => if (Wm p s).testBit v = true then wy p s (2 ^ v) v else 0) (pw p)
theorem oT_eq {p : paT} {s Y : Nat} (hW : paW p Y) (hs : s < ps p) : oT p s = sm (fun k => wyc p s (2 ^ k) k) (vL p s).length := by
  unfold oT
  rw [sm_re2 p s (fun v => wy p s (2 ^ v) v)]
  refine sm_cong (fun k hk => ?_)
  have hO : whO (vL p s) := vK_ord p s (pw p)
  unfold wyc
  rw [Gm_one hO (oc_6 hW hs) hk]
set_option maxHeartbeats 4000000 in
set_option maxRecDepth 100000 in
theorem cl_orders {d s Y : Nat} {σ : zSo} {Q : Option Value → zSo → Prop} {p : paT} (hO : OS σ (vL p s)) (hW : paW p Y) (hs : s < ps p) (hw : WS σ p s 0) (hQ : Q (some (.int (nI (if (vL p s).length = 0 then 1 else oT p s)))) σ) : zC d 23 [.ref 64] σ Q := by
  have hl6 := hO.1
  have lp : ∀ m k, k + m = (vL p s).length → (vL p s).length ≠ 0 → ∀ i : Int32, i = nI k → zA d 23 13 [(0, .ref 64), (1, .int (nI (sm (fun k => wyc p s (2 ^ k) k) k))), (2, .int i)] [] σ Q := by
    intro m
    induction m with
    | zero =>
      intro k hk h0 i ei
      subst ei
      have : k = (vL p s).length := by omega
      subst this
      refine zA_s0 rfl ?_
      repeat refine zA_step rfl rfl ?_
      rw [hO.2.1]
      refine zA_t (Int32.le_refl _) ?_
      repeat refine zA_step rfl rfl ?_
      rw [if_neg h0, oT_eq hW hs] at hQ
      exact zA_ret rfl hQ
    | succ m ih =>
      intro k hk h0 i ei
      subst ei
      have h1 : 2 ^ k < 2 ^ (vL p s).length := Nat.pow_lt_pow_right (by omega) (by omega)
      have h2 := two6 hl6
      have h3 : 0 < 2 ^ k := Nat.pow_pos (by omega)
      have hle : sm (fun k => wyc p s (2 ^ k) k) k ≤ k * 46656 := sm_le (fun j _ => wyc_le hW s _ _)
      refine zA_s0 rfl ?_
      repeat refine zA_step rfl rfl ?_
      rw [hO.2.1]
      refine zA_f (by simp (disch := omega) only [nu_lt, nu_le, nu_eq, nu_cmp_lt, nu_cmp_gt, nu_cmp_ge, nu_cmp_le, nu_wide, Int32.toInt_add, Int32.toInt_sub, Int32.toInt_mul, nu_I, Nat.reducePow, nu_bm, Int32.reduceToInt, Int64.reduceToInt]; omega) ?_
      repeat refine zA_step rfl rfl ?_
      rw [nu_shl k (by omega)]
      refine zA_ld (j := 6 * 2 ^ k + k) rfl (by rw [nu_eq]; simp (disch := omega) only [Int32.toInt_add, Int32.toInt_sub, Int32.toInt_mul, nu_I, Nat.reducePow, nu_bm, Int32.reduceToInt, Int64.reduceToInt]; omega) (by omega) (by decide) (hw _ h3 h1 k (by omega) (by simp)) ?_
      repeat refine zA_step rfl rfl ?_
      rw [nI_add]
      exact ih (k + 1) (by omega) h0 _ (nI_1 k)
  show zA d _ 0 [(0, .ref 64)] [] σ Q
  repeat refine zA_step rfl rfl ?_
  rw [hO.2.1]
  by_cases h0 : (vL p s).length = 0
  · rw [h0]
    rw [if_pos h0] at hQ
    repeat refine zA_step rfl rfl ?_
    exact zA_ret rfl hQ
  · refine zA_f (by simp (disch := omega) only [nu_lt, nu_le, nu_eq, nu_cmp_lt, nu_cmp_gt, nu_cmp_ge, nu_cmp_le, nu_wide, Int32.toInt_add, Int32.toInt_sub, Int32.toInt_mul, nu_I, Nat.reducePow, nu_bm, Int32.reduceToInt, Int64.reduceToInt]; omega) ?_
    repeat refine zA_step rfl rfl ?_
    exact lp (vL p s).length 0 (by omega) h0 0 rfl
def nrl (p : paT) (s : Nat) (lw : Option Nat) (v : Nat) : Bool := match lw with
  | none => true
  | some w => nr p s v w
/-- who may swear next -/
def pP (p : paT) (s M : Nat) (lw : Option Nat) (v : Nat) : Bool := (Wm p s).testBit v && !M.testBit v && nrl p s lw v && decide (0 < wy p s (M ||| 2 ^ v) v)
def foN (p : paT) (s : Nat) : Nat → Nat → Option Nat → Option Nat
  | 0, _, lw => lw
  | u + 1, M, lw => match ff (pP p s M lw) 6 0 with
    | none => none
    | some v => foN p s u (M ||| 2 ^ v) (some v)
theorem ff_some {P : Nat → Bool} : ∀ {N k v : Nat}, P v = true → k ≤ v → v < k + N → (∀ u, k ≤ u → u < v → P u = false) → ff P N k = some v
  | 0, k, v, _, _, h, _ => by omega
  | N + 1, k, v, hp, h1, h2, h3 => by
    unfold ff
    by_cases e : k = v
    · subst e; rw [if_pos hp]
    · rw [if_neg (by rw [h3 k (Nat.le_refl _) (by omega)]; decide)]
      exact ff_some hp (by omega) (by omega) (fun u a b => h3 u (by omega) b)
theorem ff_none {P : Nat → Bool} : ∀ {N k : Nat}, (∀ u, k ≤ u → u < k + N → P u = false) → ff P N k = none
  | 0, k, _ => rfl
  | N + 1, k, h => by
    unfold ff
    rw [if_neg (by rw [h k (Nat.le_refl _) (by omega)]; decide)]
    exact ff_none (fun u a b => h u (by omega) (by omega))
theorem ff_is {P : Nat → Bool} : ∀ {N k v : Nat}, ff P N k = some v → P v = true ∧ k ≤ v ∧ v < k + N ∧ ∀ u, k ≤ u → u < v → P u = false
  | 0, k, v, h => by cases h
  | N + 1, k, v, h => by
    unfold ff at h
    by_cases e : P k = true
    · rw [if_pos e] at h
      cases h
      exact ⟨e, Nat.le_refl _, by omega, fun u a b => by omega⟩
    · rw [if_neg e] at h
      obtain ⟨a, b, c, d⟩ := ff_is h
      refine ⟨a, by omega, by omega, fun u h1 h2 => ?_⟩
      by_cases e2 : u = k
      · subst e2; simpa using e
      · exact d u (by omega) h2
theorem ff_no {P : Nat → Bool} : ∀ {N k : Nat}, ff P N k = none → ∀ u, k ≤ u → u < k + N → P u = false
  | 0, k, _, u, h1, h2 => by omega
  | N + 1, k, h, u, h1, h2 => by
    unfold ff at h
    by_cases e : P k = true
    · rw [if_pos e] at h; cases h
    · rw [if_neg e] at h
      by_cases e2 : u = k
      · subst e2; simpa using e
      · exact ff_no h u (by omega) (by omega)
/-- the same, by places: −1 for none -/
def eL (o : Option Nat) : Int32 := match o with
  | none => -1
  | some j => nI j
set_option maxHeartbeats 4000000 in
set_option maxRecDepth 100000 in
theorem cl_firstNext {d s Y S : Nat} {σ : zSo} {Q : Option Value → zSo → Prop} {p : paT} (lj : Option Nat) (hO : OS σ (vL p s)) (hW : paW p Y) (hs : s < ps p) (hw : WS σ p s 0) (hS : S < 2 ^ (vL p s).length) (hlj : ∀ j, lj = some j → j < (vL p s).length)
    (hn : ff (pP p s (Gm (vL p s) S) (lj.map (gW (vL p s)))) 6 0 = none → Q (some (.int (-1))) σ) (hk : ∀ k, k < (vL p s).length → ff (pP p s (Gm (vL p s) S) (lj.map (gW (vL p s)))) 6 0 = some (gW (vL p s) k) → Q (some (.int (nI k))) σ) : zC (d + 1) 25 [.ref 64, .int (nI S), .int (eL lj)] σ Q := by
  have hl6 := hO.1
  have h6 := oc_6 hW hs
  have hwh : whO (vL p s) := vK_ord p s (pw p)
  have hS6 : S < 64 := Nat.lt_of_lt_of_le hS (two6 hl6)
  have pPk : ∀ k, k < (vL p s).length → pP p s (Gm (vL p s) S) (lj.map (gW (vL p s))) (gW (vL p s) k) = (!S.testBit k && nrl p s (lj.map (gW (vL p s))) (gW (vL p s) k) && decide (0 < wyc p s (S ||| 2 ^ k) k)) := by
    intro k hk
    unfold pP wyc
    rw [(oc_get hW hs hk).2.2.2, Gm_at hwh h6 hk, Gm_or hwh h6 hk]
    rfl
  have lp : ∀ m k, k + m = (vL p s).length → (∀ j, j < k → pP p s (Gm (vL p s) S) (lj.map (gW (vL p s))) (gW (vL p s) j) = false) → ∀ i : Int32, i = nI k → zA (d + 1) 25 2 [(0, .ref 64), (1, .int (nI S)), (2, .int (eL lj)), (3, .int i)] [] σ Q := by
    intro m
    induction m with
    | zero =>
      intro k hkm hb i ei
      subst ei
      have : k = (vL p s).length := by omega
      subst this
      refine zA_s0 rfl ?_
      repeat refine zA_step rfl rfl ?_
      rw [hO.2.1]
      refine zA_t (Int32.le_refl _) ?_
      repeat refine zA_step rfl rfl ?_
      refine zA_ret rfl (hn (ff_none (fun u _ _ => ?_)))
      cases hc : pP p s (Gm (vL p s) S) (lj.map (gW (vL p s))) u with
      | false => rfl
      | true =>
        have hW1 : (Wm p s).testBit u = true := by
          unfold pP at hc
          simp only [Bool.and_eq_true] at hc
          exact hc.1.1.1
        obtain ⟨j, hj, e⟩ := (oc_of hW1).2
        subst e
        rw [hb j hj] at hc; cases hc
    | succ m ih =>
      intro k hkm hb i ei
      subst ei
      have hkl : k < (vL p s).length := by omega
      have nx : pP p s (Gm (vL p s) S) (lj.map (gW (vL p s))) (gW (vL p s) k) = false → zA (d + 1) 25 2 [(0, .ref 64), (1, .int (nI S)), (2, .int (eL lj)), (3, .int (nI k + 1))] [] σ Q := fun h => ih (k + 1) (by omega) (fun j hj => by
        by_cases e : j = k
        · subst e; exact h
        · exact hb j (by omega)) _ (nI_1 k)
      have tail : S.testBit k = false → nrl p s (lj.map (gW (vL p s))) (gW (vL p s) k) = true → zA (d + 1) 25 57 [(0, .ref 64), (1, .int (nI S)), (2, .int (eL lj)), (3, .int (nI k)), (4, .int 1)] [.int ((nI S ||| 1 <<< (nI k &&& 31)) * 6 + nI k), .ref 67] σ Q := by
        intro hb1 hb2
        have g1 := or_lt hS hkl
        have g2 := or_gt hb1
        have g3 : S ||| 2 ^ k < 64 := Nat.lt_of_lt_of_le g1 (two6 hl6)
        have g4 := wyc_le hW s (S ||| 2 ^ k) k
        rw [nu_shl k (by omega), nu_or]
        refine zA_ld (j := 6 * (S ||| 2 ^ k) + k) rfl (by rw [nu_eq]; simp (disch := omega) only [Int32.toInt_add, Int32.toInt_sub, Int32.toInt_mul, nu_I, Nat.reducePow, nu_bm, Int32.reduceToInt, Int64.reduceToInt]; omega) (by omega) (by decide) (hw _ (by omega) g1 k hkl (by rw [bit_or]; simp)) ?_
        repeat refine zA_step rfl rfl ?_
        by_cases e : 0 < wyc p s (S ||| 2 ^ k) k
        · refine zA_f (by simp (disch := omega) only [nu_lt, nu_le, nu_eq, nu_cmp_lt, nu_cmp_gt, nu_cmp_ge, nu_cmp_le, nu_wide, Int32.toInt_add, Int32.toInt_sub, Int32.toInt_mul, nu_I, Nat.reducePow, nu_bm, Int32.reduceToInt, Int64.reduceToInt]; omega) ?_
          repeat refine zA_step rfl rfl ?_
          refine zA_ret rfl (hk k hkl (ff_some (by rw [pPk k hkl, hb1, hb2]; simp [e]) (by omega) (by have := h6 k hkl; omega) (fun u _ hu => ?_)))
          cases hc : pP p s (Gm (vL p s) S) (lj.map (gW (vL p s))) u with
          | false => rfl
          | true =>
            have hW1 : (Wm p s).testBit u = true := by
              unfold pP at hc
              simp only [Bool.and_eq_true] at hc
              exact hc.1.1.1
            obtain ⟨j, hj, e⟩ := (oc_of hW1).2
            subst e
            rw [hb j ((gW_inj hwh hj hkl).1.mp hu)] at hc; cases hc
        · refine zA_t (by simp (disch := omega) only [nu_lt, nu_le, nu_eq, nu_cmp_lt, nu_cmp_gt, nu_cmp_ge, nu_cmp_le, nu_wide, Int32.toInt_add, Int32.toInt_sub, Int32.toInt_mul, nu_I, Nat.reducePow, nu_bm, Int32.reduceToInt, Int64.reduceToInt]; omega) ?_
          repeat refine zA_step rfl rfl ?_
          refine zA_dr rfl rfl rfl ?_
          exact nx (by rw [pPk k hkl]; simp [e])
      refine zA_s0 rfl ?_
      repeat refine zA_step rfl rfl ?_
      rw [hO.2.1]
      refine zA_f (by simp (disch := omega) only [nu_lt, nu_le, nu_eq, nu_cmp_lt, nu_cmp_gt, nu_cmp_ge, nu_cmp_le, nu_wide, Int32.toInt_add, Int32.toInt_sub, Int32.toInt_mul, nu_I, Nat.reducePow, nu_bm, Int32.reduceToInt, Int64.reduceToInt]; omega) ?_
      repeat refine zA_step rfl rfl ?_
      rw [nu_bit S hS6 k (by omega)]
      cases hb1 : S.testBit k with
      | true =>
        repeat refine zA_step rfl rfl ?_
        refine zA_dr rfl rfl rfl ?_
        exact nx (by rw [pPk k hkl, hb1]; simp)
      | false =>
        cases lj with
        | none =>
          repeat refine zA_step rfl rfl ?_
          exact tail hb1 rfl
        | some j =>
          have hj := hlj j rfl
          show zA _ _ _ [(0, .ref 64), (1, .int (nI S)), (2, .int (nI j)), (3, .int (nI k))] _ _ _
          repeat refine zA_step rfl rfl ?_
          refine zA_f (by simp (disch := omega) only [nu_lt, nu_le, nu_eq, nu_cmp_lt, nu_cmp_gt, nu_cmp_ge, nu_cmp_le, nu_wide, Int32.toInt_add, Int32.toInt_sub, Int32.toInt_mul, nu_I, Nat.reducePow, nu_bm, Int32.reduceToInt, Int64.reduceToInt]; omega) ?_
          repeat refine zA_step rfl rfl ?_
          refine zA_call rfl rfl (cl_areNear hO hW hs hj hkl (fun h => ?_) (fun h => ?_))
          · repeat refine zA_step rfl rfl ?_
            exact tail hb1 h
          · repeat refine zA_step rfl rfl ?_
            refine zA_dr rfl rfl rfl ?_
            exact nx (by rw [pPk k hkl, hb1]; simp [h, nrl])
  show zA (d + 1) _ 0 [(0, .ref 64), (1, .int (nI S)), (2, .int (eL lj))] [] σ Q
  repeat refine zA_step rfl rfl ?_
  exact lp (vL p s).length 0 (by omega) (fun j hj => by omega) 0 rfl
set_option maxHeartbeats 4000000 in
set_option maxRecDepth 100000 in
theorem cl_inFirst {d s Y k : Nat} {σ : zSo} {Q : Option Value → zSo → Prop} {p : paT} (hO : OS σ (vL p s)) (hW : paW p Y) (hs : s < ps p) (hw : WS σ p s 0) (hk : k < 6) (hQ : Q (some (.int (if k < (vL p s).length then eO (foN p s (k + 1) 0 none) else NO))) σ) : zC (d + 2) 24 [.ref 64, .int (nI k)] σ Q := by
  have hl6 := hO.1
  have h6 := oc_6 hW hs
  have hwh : whO (vL p s) := vK_ord p s (pw p)
  have lp : k < (vL p s).length → ∀ m i, i + m = k + 1 → ∀ S lj, S < 2 ^ (vL p s).length → (∀ j, lj = some j → j < (vL p s).length) → (m = 0 → lj ≠ none) → foN p s m (Gm (vL p s) S) (lj.map (gW (vL p s))) = foN p s (k + 1) 0 none → ∀ ii : Int32, ii = nI i → zA (d + 2) 24 22 [(0, .ref 64), (1, .int (nI k)), (2, .int (nI S)), (3, .int (eL lj)), (4, .int ii)] [] σ Q := by
    intro hkl m
    rw [if_pos hkl] at hQ
    induction m with
    | zero =>
      intro i hi S lj hS hlj hno hfo ii ei
      subst ei
      have : i = k + 1 := by omega
      subst this
      cases lj with
      | none => exact absurd rfl (hno rfl)
      | some j =>
        have hj := hlj j rfl
        refine zA_s0 rfl ?_
        repeat refine zA_step rfl rfl ?_
        refine zA_t (by simp (disch := omega) only [nu_lt, nu_le, nu_eq, nu_cmp_lt, nu_cmp_gt, nu_cmp_ge, nu_cmp_le, nu_wide, Int32.toInt_add, Int32.toInt_sub, Int32.toInt_mul, nu_I, Nat.reducePow, nu_bm, Int32.reduceToInt, Int64.reduceToInt]; omega) ?_
        show zA _ _ _ [(0, .ref 64), (1, .int (nI k)), (2, .int (nI S)), (3, .int (nI j)), (4, .int (nI (k + 1)))] _ _ _
        repeat refine zA_step rfl rfl ?_
        refine zA_ld (j := j) rfl rfl (by omega) (by decide) (hO.2.2 j _ (oc_get hW hs hj).1).1 ?_
        refine zA_ret rfl ?_
        rw [← hfo] at hQ
        exact hQ
    | succ m ih =>
      intro i hi S lj hS hlj hno hfo ii ei
      subst ei
      refine zA_s0 rfl ?_
      repeat refine zA_step rfl rfl ?_
      refine zA_f (by simp (disch := omega) only [nu_lt, nu_le, nu_eq, nu_cmp_lt, nu_cmp_gt, nu_cmp_ge, nu_cmp_le, nu_wide, Int32.toInt_add, Int32.toInt_sub, Int32.toInt_mul, nu_I, Nat.reducePow, nu_bm, Int32.reduceToInt, Int64.reduceToInt]; omega) ?_
      repeat refine zA_step rfl rfl ?_
      refine zA_call rfl rfl (cl_firstNext lj hO hW hs hw hS hlj (fun h => ?_) (fun j hj h => ?_))
      · repeat refine zA_step rfl rfl ?_
        refine zA_ret rfl ?_
        rw [foN, h] at hfo
        rw [← hfo] at hQ
        exact hQ
      · have g1 := or_lt hS hj
        repeat refine zA_step rfl rfl ?_
        refine zA_t (by simp (disch := omega) only [nu_lt, nu_le, nu_eq, nu_cmp_lt, nu_cmp_gt, nu_cmp_ge, nu_cmp_le, nu_wide, Int32.toInt_add, Int32.toInt_sub, Int32.toInt_mul, nu_I, Nat.reducePow, nu_bm, Int32.reduceToInt, Int64.reduceToInt]; omega) ?_
        repeat refine zA_step rfl rfl ?_
        rw [nu_shl j (by omega), nu_or]
        refine ih (i + 1) (by omega) (S ||| 2 ^ j) (some j) g1 (fun j' e => by cases e; exact hj) (fun _ e => by cases e) ?_ _ (nI_1 i)
        rw [foN, h] at hfo
        rw [Gm_or hwh h6 hj]
        exact hfo
  show zA (d + 2) _ 0 [(0, .ref 64), (1, .int (nI k))] [] σ Q
  repeat refine zA_step rfl rfl ?_
  refine zA_f (by simp (disch := omega) only [nu_lt, nu_le, nu_eq, nu_cmp_lt, nu_cmp_gt, nu_cmp_ge, nu_cmp_le, nu_wide, Int32.toInt_add, Int32.toInt_sub, Int32.toInt_mul, nu_I, Nat.reducePow, nu_bm, Int32.reduceToInt, Int64.reduceToInt]; omega) ?_
  repeat refine zA_step rfl rfl ?_
  rw [hO.2.1]
  by_cases hkl : k < (vL p s).length
  · refine zA_t (by simp (disch := omega) only [nu_lt, nu_le, nu_eq, nu_cmp_lt, nu_cmp_gt, nu_cmp_ge, nu_cmp_le, nu_wide, Int32.toInt_add, Int32.toInt_sub, Int32.toInt_mul, nu_I, Nat.reducePow, nu_bm, Int32.reduceToInt, Int64.reduceToInt]; omega) ?_
    repeat refine zA_step rfl rfl ?_
    exact lp hkl (k + 1) 0 (by omega) 0 none (Nat.pow_pos (by omega)) (fun j e => by cases e) (fun e => by omega) (by rw [Gm_0]; rfl) 0 rfl
  · rw [if_neg hkl] at hQ
    refine zA_f (by simp (disch := omega) only [nu_lt, nu_le, nu_eq, nu_cmp_lt, nu_cmp_gt, nu_cmp_ge, nu_cmp_le, nu_wide, Int32.toInt_add, Int32.toInt_sub, Int32.toInt_mul, nu_I, Nat.reducePow, nu_bm, Int32.reduceToInt, Int64.reduceToInt]; omega) ?_
    repeat refine zA_step rfl rfl ?_
    exact zA_ret rfl hQ
