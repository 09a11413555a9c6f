/-! orders: the reference -/
theorem Wm_say {p : paT} {s v : Nat} (h : (Wm p s).testBit v = true) : v < pw p ∧ sayO p v s = some (vO p v s) := by
  unfold Wm at h
  rw [bn_tb] at h
  simp only [Bool.and_eq_true, decide_eq_true_eq] at h
  refine ⟨h.1, ?_⟩
  have h2 := h.2
  unfold swb at h2
  unfold vO
  cases e : sayO p v s with
  | none => rw [e] at h2; cases h2
  | some y => rfl
theorem nr_z {p : paT} {s v w : Nat} (hv : vO p v s ≤ 99) (hw : vO p w s ≤ 99) : (nI (vO p v s) - nI (vO p w s)).toInt = (vO p v s : Int) - vO p w s := by
  rw [nu_sub (by rw [nu_I (by omega), nu_I (by omega)]; omega) (by rw [nu_I (by omega), nu_I (by omega)]; omega), nu_I (by omega), nu_I (by omega)]
set_option maxHeartbeats 4000000 in
set_option maxRecDepth 100000 in
theorem mo_isNear {d s Y v w : Nat} {σ : zSo} {Q : Option Value → zSo → Prop} {p : paT} (hM : PM (σ 74) p) (hW : paW p Y) (hY : Y ≤ 2000) (hs : s < ps p) (hv : (Wm p s).testBit v = true) (hw : (Wm p s).testBit w = true) (ht : nr p s v w = true → Q (some (.int 1)) σ) (hf : nr p s v w = false → Q (some (.int 0)) σ) : zC (d + 3) 165 [.ref 70, .int (nI s), .int (nI v), .int (nI w)] σ Q := by
  obtain ⟨a1, a2⟩ := Wm_say hv
  obtain ⟨b1, b2⟩ := Wm_say hw
  have l1 := vO_le hW a1 hs
  have l2 := vO_le hW b1 hs
  have e := nr_z (p := p) l1 l2
  unfold nr at ht hf
  rw [decide_eq_true_iff] at ht
  rw [decide_eq_false_iff_not] at hf
  show zA (d + 3) _ 0 [(0, .ref 70), (1, .int (nI s)), (2, .int (nI v)), (3, .int (nI w))] [] σ Q
  repeat refine zA_step rfl rfl ?_
  refine zA_call rfl rfl (mo_says (Or.inl rfl) hM hW hY a1 hs ?_)
  repeat refine zA_step rfl rfl ?_
  refine zA_call rfl rfl (mo_says (Or.inl rfl) hM hW hY b1 hs ?_)
  rw [a2, b2]
  show zA _ _ _ _ [.int (nI (vO p w s)), .int (nI (vO p v s))] _ _
  repeat refine zA_step rfl rfl ?_
  refine zA_c (fun c => ?_) (fun c => ?_)
  all_goals rw [nu_lt, e] at c; simp only [Int32.reduceToInt] at c
  · repeat refine zA_step rfl rfl ?_
    exact zA_ret rfl (hf (by omega))
  repeat refine zA_step rfl rfl ?_
  refine zA_c (fun c2 => ?_) (fun c2 => ?_)
  all_goals rw [nu_lt, e] at c2; simp only [Int32.reduceToInt] at c2
  · repeat refine zA_step rfl rfl ?_
    exact zA_ret rfl (hf (by omega))
  · repeat refine zA_step rfl rfl ?_
    exact zA_ret rfl (ht (by omega))
def OD (σ : zSo) (p : paT) (s lo : Nat) : Prop := ∀ M, lo < M → M < 64 → ∀ w, w < 6 → σ 80 (6 * M + w) = nI (if M &&& (63 ^^^ Wm p s) = 0 ∧ M.testBit w = true then wy p s M w else 0)
theorem and_tb : ∀ x, x < 64 → ∀ y, y < 64 → ∀ v, v < 6 → (x &&& (63 ^^^ y)).testBit v = (x.testBit v && !y.testBit v) := by decide +kernel
theorem or_6 : ∀ x, x < 64 → ∀ v, v < 6 → x ||| 2 ^ v < 64 := by decide +kernel
theorem sub_or : ∀ x, x < 64 → ∀ y, y < 64 → ∀ v, v < 6 → x &&& (63 ^^^ y) = 0 → y.testBit v = true → (x ||| 2 ^ v) &&& (63 ^^^ y) = 0 := by decide +kernel
def fY (p : paT) (s M w v : Nat) : Nat := if ((Wm p s).testBit v && !M.testBit v && nr p s v w) = true then wy p s (M ||| 2 ^ v) v else 0
theorem fY_le {p : paT} {Y : Nat} (hW : paW p Y) (s M w v : Nat) : fY p s M w v ≤ 46656 := by
  unfold fY
  split
  · exact wy_le hW.2.2.2.2.1 _ _ _
  · omega
theorem wy_sum {p : paT} {Y s M w : Nat} (hW : paW p Y) (hM : M < 64) (hs : M &&& (63 ^^^ Wm p s) = 0) : wy p s M w = (if M = Wm p s then 1 else 0) + sm (fY p s M w) (pw p) := by
  rw [wy_rec hW.2.2.2.2.1 hM hs]
  by_cases e : M = Wm p s
  · rw [if_pos e, if_pos e]
    have : sm (fY p s M w) (pw p) = 0 := by
      rw [sm_cong (g := fun _ => 0) (fun k _ => ?_), sm_zero]
      unfold fY
      rw [e]
      simp
    omega
  · rw [if_neg e, if_neg e, Nat.zero_add]
    rfl
set_option maxHeartbeats 4000000 in
set_option maxRecDepth 100000 in
theorem mo_follow {d s Y M w : Nat} {σ : zSo} {Q : Option Value → zSo → Prop} {p : paT} (hP : PM (σ 74) p) (hW : paW p Y) (hY : Y ≤ 2000) (hs : s < ps p) (hM : M < 64) (hMs : M &&& (63 ^^^ Wm p s) = 0) (hw6 : w < 6) (hw : M.testBit w = true) (hD : OD σ p s M) (hQ : Q (some (.int (nI (wy p s M w)))) σ) : zC (d + 5) 166 [.ref 70, .int (nI s), .int (nI (Wm p s)), .int (nI M), .int (nI w)] σ Q := by
  have w6 := hW.2.2.2.2.1
  have hWm := Wm_lt w6 s
  have hww := sub6_tb M hM _ hWm hMs w hw6 hw
  have lp : ∀ m k, k + m = pw p → ∀ i : Int32, i = nI k → zA (d + 5) 166 15 [(0, .ref 70), (1, .int (nI s)), (2, .int (nI (Wm p s))), (3, .int (nI M)), (4, .int (nI w)), (5, .int (nI ((if M = Wm p s then 1 else 0) + sm (fY p s M w) k))), (6, .int i)] [] σ Q := by
    intro m
    induction m with
    | zero =>
      intro k hk i ei
      subst ei
      have : k = pw p := by omega
      subst this
      refine zA_s0 rfl ?_
      repeat refine zA_step rfl rfl ?_
      simp only [nu_c3, hP.2.2.1]
      refine zA_t (Int32.le_refl _) ?_
      repeat refine zA_step rfl rfl ?_
      rw [wy_sum hW hM hMs] at hQ
      exact zA_ret rfl hQ
    | succ m ih =>
      intro k hk i ei
      subst ei
      have hle : sm (fY p s M w) k ≤ k * 46656 := sm_le (fun j _ => fY_le hW s M w j)
      have h01 : (if M = Wm p s then 1 else 0) ≤ 1 := by split <;> omega
      have nx : ∀ v : Int32, v = nI ((if M = Wm p s then 1 else 0) + sm (fY p s M w) k + fY p s M w k) → zA (d + 5) 166 15 [(0, .ref 70), (1, .int (nI s)), (2, .int (nI (Wm p s))), (3, .int (nI M)), (4, .int (nI w)), (5, .int v), (6, .int (nI k + 1))] [] σ Q := fun v hv => by
        rw [hv, Nat.add_assoc]
        exact ih (k + 1) (by omega) _ (nI_1 k)
      have ha : Wm p s &&& (63 ^^^ M) < 64 := Nat.lt_of_le_of_lt Nat.and_le_left hWm
      refine zA_s0 rfl ?_
      repeat refine zA_step rfl rfl ?_
      simp only [nu_c3, hP.2.2.1]
      refine zA_f (by simp (disch := omega) only [nu_lt, nu_le, nu_eq, nu_cmp_lt, nu_cmp_gt, nu_cmp_ge, nu_cmp_le, nu_wide, Int32.toInt_add, Int32.toInt_sub, Int32.toInt_mul, nu_I, Nat.reducePow, nu_bm, Int32.reduceToInt, Int64.reduceToInt]; omega) ?_
      repeat refine zA_step rfl rfl ?_
      rw [nu_sub6 _ hWm M hM]
      refine zA_call rfl rfl (mo_has ha (by omega) (fun h => ?_) (fun h => ?_))
      · rw [and_tb _ hWm _ hM k (by omega)] at h
        obtain ⟨h1, h2⟩ := Bool.and_eq_true_iff.mp h
        have h2' : M.testBit k = false := by simpa using h2
        repeat refine zA_step rfl rfl ?_
        refine zA_call rfl rfl (mo_isNear hP hW hY hs h1 hww (fun h3 => ?_) (fun h3 => ?_))
        · have g1 := or_6 M hM k (by omega)
          have g2 := or_gt h2'
          have g3 := sub_or M hM _ hWm k (by omega) hMs h1
          have hv := hD _ g2 g1 k (by omega)
          rw [if_pos ⟨g3, by rw [bit_or]; simp⟩] at hv
          repeat refine zA_step rfl rfl ?_
          rw [nu_shl k (by omega), nu_or]
          refine zA_ld (j := 6 * (M ||| 2 ^ k) + k) rfl (by rw [nu_eq]; simp (disch := omega) only [Int32.toInt_add, Int32.toInt_sub, Int32.toInt_mul, nu_I, Nat.reducePow, nu_bm, Int32.reduceToInt, Int64.reduceToInt]; omega) (by omega) (by decide) hv ?_
          repeat refine zA_step rfl rfl ?_
          refine nx _ ?_
          rw [nI_add, fY, h1, h2', h3]
          simp
        · repeat refine zA_step rfl rfl ?_
          refine nx _ ?_
          rw [fY, h3]
          simp
      · rw [and_tb _ hWm _ hM k (by omega)] at h
        repeat refine zA_step rfl rfl ?_
        refine nx _ ?_
        rw [fY, h]
        simp
  show zA (d + 5) _ 0 [(0, .ref 70), (1, .int (nI s)), (2, .int (nI (Wm p s))), (3, .int (nI M)), (4, .int (nI w))] [] σ Q
  repeat refine zA_step rfl rfl ?_
  have go := lp (pw p) 0 (by omega) 0 rfl
  by_cases e : M = Wm p s
  · refine zA_t (by rw [e]) ?_
    repeat refine zA_step rfl rfl ?_
    rw [if_pos e] at go
    exact go
  · refine zA_f (by simp (disch := omega) only [nu_lt, nu_le, nu_eq, nu_cmp_lt, nu_cmp_gt, nu_cmp_ge, nu_cmp_le, nu_wide, Int32.toInt_add, Int32.toInt_sub, Int32.toInt_mul, nu_I, Nat.reducePow, nu_bm, Int32.reduceToInt, Int64.reduceToInt]; omega) ?_
    repeat refine zA_step rfl rfl ?_
    rw [if_neg e] at go
    exact go
set_option maxHeartbeats 4000000 in
set_option maxRecDepth 100000 in
theorem mo_orders {d s Y k : Nat} {σ : zSo} {Q : Option Value → zSo → Prop} {p : paT} {x4 x2 : Int32} (hP : PM (σ 74) p) (hW : paW p Y) (hY : Y ≤ 2000) (hs : s < ps p)
    (hQ : ∀ σ' : zSo, zFr [80] σ σ' → OD σ' p s 0 → zA (d + 6) 167 139 [(0, .ref 70), (1, .int (nI s)), (2, .int x2), (3, .int (nI (Wm p s))), (4, .int x4), (5, .int 0)] [] σ' Q) :
    ∀ M, M < 64 → ∀ σ1 : zSo, zFr [80] σ σ1 → OD σ1 p s M → ∀ i : Int32, i = nI M → zA (d + 6) 167 54 [(0, .ref 70), (1, .int (nI s)), (2, .int x2), (3, .int (nI (Wm p s))), (4, .int x4), (5, .int i)] [] σ1 Q := by
  have w6 := hW.2.2.2.2.1
  have hWm := Wm_lt w6 s
  have lin : ∀ M, 0 < M → M < 64 → (∀ σ2 : zSo, zFr [80] σ σ2 → OD σ2 p s (M - 1) → ∀ i : Int32, i = nI (M - 1) → zA (d + 6) 167 54 [(0, .ref 70), (1, .int (nI s)), (2, .int x2), (3, .int (nI (Wm p s))), (4, .int x4), (5, .int i)] [] σ2 Q) →
      ∀ m w, w + m = 6 → ∀ σ1 : zSo, zFr [80] σ σ1 → OD σ1 p s M → (∀ j, j < w → σ1 80 (6 * M + j) = nI (if M &&& (63 ^^^ Wm p s) = 0 ∧ M.testBit j = true then wy p s M j else 0)) → ∀ i : Int32, i = nI w → zA (d + 6) 167 62 [(0, .ref 70), (1, .int (nI s)), (2, .int x2), (3, .int (nI (Wm p s))), (4, .int x4), (5, .int (nI M)), (6, .int i)] [] σ1 Q := by
    intro M h0 hM K m
    have ha : M &&& (63 ^^^ Wm p s) < 64 := Nat.lt_of_le_of_lt Nat.and_le_left hM
    induction m with
    | zero =>
      intro w hw σ1 hF hD hd i ei
      subst ei
      have : w = 6 := by omega
      subst this
      refine zA_s0 rfl ?_
      repeat refine zA_step rfl rfl ?_
      refine zA_dr rfl rfl rfl ?_
      refine K σ1 hF (fun T h1 h2 j hj => ?_) _ (by rw [nu_eq]; simp (disch := omega) only [Int32.toInt_add, Int32.toInt_sub, Int32.toInt_mul, nu_I, Nat.reducePow, nu_bm, Int32.reduceToInt, Int64.reduceToInt]; omega)
      by_cases e : T = M
      · subst e; exact hd j hj
      · exact hD T (by omega) h2 j hj
    | succ m ih =>
      intro w hw σ1 hF hD hd i ei
      subst ei
      have hP1 : PM (σ1 74) p := by rw [hF _ (by decide)]; exact hP
      have put : ∀ v : Int32, v = nI (if M &&& (63 ^^^ Wm p s) = 0 ∧ M.testBit w = true then wy p s M w else 0) → zA (d + 6) 167 62 [(0, .ref 70), (1, .int (nI s)), (2, .int x2), (3, .int (nI (Wm p s))), (4, .int x4), (5, .int (nI M)), (6, .int (nI w + 1))] [] (zup σ1 80 (6 * M + w) v) Q := by
        intro v hv
        refine ih (w + 1) (by omega) _ (hF.up (by simp)) (fun T h1 h2 j hj => ?_) (fun j hj => ?_) _ (nI_1 w)
        · rw [zup_k]
          simp only [upd]
          rw [if_neg (by omega)]
          exact hD T h1 h2 j hj
        · rw [zup_k]
          simp only [upd]
          by_cases e : j = w
          · subst e; rw [if_pos rfl]; exact hv
          · rw [if_neg (by omega)]
            exact hd j (by omega)
      refine zA_s0 rfl ?_
      repeat refine zA_step rfl rfl ?_
      refine zA_f (by simp (disch := omega) only [nu_lt, nu_le, nu_eq, nu_cmp_lt, nu_cmp_gt, nu_cmp_ge, nu_cmp_le, nu_wide, Int32.toInt_add, Int32.toInt_sub, Int32.toInt_mul, nu_I, Nat.reducePow, nu_bm, Int32.reduceToInt, Int64.reduceToInt]; omega) ?_
      repeat refine zA_step rfl rfl ?_
      rw [nu_sub6 M hM _ hWm]
      by_cases e1 : M &&& (63 ^^^ Wm p s) = 0
      · rw [e1]
        repeat refine zA_step rfl rfl ?_
        refine zA_call rfl rfl (mo_has hM (by omega) (fun h => ?_) (fun h => ?_))
        · repeat refine zA_step rfl rfl ?_
          refine zA_call rfl rfl (mo_follow hP1 hW hY hs hM e1 (by omega) h hD ?_)
          repeat refine zA_step rfl rfl ?_
          refine zA_sto (j := 6 * M + w) rfl (by rw [nu_eq]; simp (disch := omega) only [Int32.toInt_add, Int32.toInt_sub, Int32.toInt_mul, nu_I, Nat.reducePow, nu_bm, Int32.reduceToInt, Int64.reduceToInt]; omega) (by omega) (by decide) ?_
          repeat refine zA_step rfl rfl ?_
          refine zA_dr rfl rfl rfl ?_
          exact put _ (by rw [if_pos ⟨e1, h⟩])
        · repeat refine zA_step rfl rfl ?_
          refine zA_sto (j := 6 * M + w) rfl (by rw [nu_eq]; simp (disch := omega) only [Int32.toInt_add, Int32.toInt_sub, Int32.toInt_mul, nu_I, Nat.reducePow, nu_bm, Int32.reduceToInt, Int64.reduceToInt]; omega) (by omega) (by decide) ?_
          repeat refine zA_step rfl rfl ?_
          refine zA_dr rfl rfl rfl ?_
          exact put _ (by rw [if_neg (fun z => by rw [h] at z; cases z.2)]; rfl)
      · refine zA_f (by simp (disch := omega) only [nu_lt, nu_le, nu_eq, nu_cmp_lt, nu_cmp_gt, nu_cmp_ge, nu_cmp_le, nu_wide, Int32.toInt_add, Int32.toInt_sub, Int32.toInt_mul, nu_I, Nat.reducePow, nu_bm, Int32.reduceToInt, Int64.reduceToInt]; omega) ?_
        repeat refine zA_step rfl rfl ?_
        refine zA_sto (j := 6 * M + w) rfl (by rw [nu_eq]; simp (disch := omega) only [Int32.toInt_add, Int32.toInt_sub, Int32.toInt_mul, nu_I, Nat.reducePow, nu_bm, Int32.reduceToInt, Int64.reduceToInt]; omega) (by omega) (by decide) ?_
        repeat refine zA_step rfl rfl ?_
        refine zA_dr rfl rfl rfl ?_
        exact put _ (by rw [if_neg (fun z => e1 z.1)]; rfl)
  intro M
  induction M with
  | zero =>
    intro hM σ1 hF hD i ei
    subst ei
    refine zA_s0 rfl ?_
    refine zA_s0 rfl ?_
    refine zA_t (by decide) ?_
    exact hQ σ1 hF hD
  | succ M ih =>
    intro hM σ1 hF hD i ei
    subst ei
    refine zA_s0 rfl ?_
    repeat refine zA_step rfl rfl ?_
    refine zA_f (by simp (disch := omega) only [nu_lt, nu_le, nu_eq, nu_cmp_lt, nu_cmp_gt, nu_cmp_ge, nu_cmp_le, nu_wide, Int32.toInt_add, Int32.toInt_sub, Int32.toInt_mul, nu_I, Nat.reducePow, nu_bm, Int32.reduceToInt, Int64.reduceToInt]; omega) ?_
    repeat refine zA_step rfl rfl ?_
    exact lin (M + 1) (by omega) hM (fun σ2 hF2 hD2 i ei => ih (by omega) σ2 hF2 hD2 i ei) 6 0 (by omega) σ1 hF hD (fun j hj => by omega) 0 rfl
