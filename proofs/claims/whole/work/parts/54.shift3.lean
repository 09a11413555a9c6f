/-! shift, the sets, the pair -/
set_option maxHeartbeats 4000000 in
set_option maxRecDepth 100000 in
theorem mo_shift_lp {d s k m0 : Nat} {σ : zSo} {Q : Option Value → zSo → Prop} {p : paT} {Y : Nat} (hM : PM (σ 74) p) (hW : paW p Y) (hY : Y ≤ 2000) (hs : s < ps p) (hk : k ≤ 6) (h0 : (vL p s).length ≠ 0) (hm0 : isM (vL p s) m0)
    (hQ : ∀ (σ' : zSo) b, zFr [79] σ σ' → Bst p s k m0 (bn (swb p s) (pw p) + 1) b → Q (some (.int (nI b))) σ') : ∀ n X, X + n = bn (swb p s) (pw p) + 1 → ∀ (σ1 : zSo) b, b ≤ 99 → zFr [79] σ σ1 → Bst p s k m0 X b → ∀ ii : Int32, ii = nI X →
    zA (d + 5) 169 69 [(0, .ref 70), (1, .int (nI s)), (2, .int (nI k)), (3, .int (nI (bn (swb p s) (pw p)))), (5, .int (nI m0)), (6, .int (nI b)), (7, .int ii)] [] σ1 Q := by
  have w6 := hW.2.2.2.2.1
  have hwho := bn_lt64 (swb p s) w6
  have m09 := isM_le (vL_99 hW hs) hm0
  intro n
  induction n with
  | zero =>
    intro X hX σ1 b hb9 hF hB ii ei
    subst ei
    have : X = bn (swb p s) (pw p) + 1 := by omega
    subst this
    refine zA_s0 rfl ?_
    repeat refine zA_step rfl rfl ?_
    refine zA_t (by simp (disch := omega) only [nu_lt, nu_le, nu_eq, nu_cmp_lt, nu_cmp_gt, nu_cmp_ge, nu_cmp_le, nu_wide, Int32.toInt_add, Int32.toInt_sub, Int32.toInt_mul, nu_I, Nat.reducePow, nu_bm, Int32.reduceToInt, Int64.reduceToInt]; omega) ?_
    repeat refine zA_step rfl rfl ?_
    exact zA_ret rfl (hQ σ1 b hF hB)
  | succ n ih =>
    intro X hX σ1 b hb9 hF hB ii ei
    subst ei
    have hX6 : X < 64 := by omega
    have hM1 : PM (σ1 74) p := by rw [hF _ (by decide)]; exact hM
    have skip : ¬ Vs p s k X → zA (d + 5) 169 69 [(0, .ref 70), (1, .int (nI s)), (2, .int (nI k)), (3, .int (nI (bn (swb p s) (pw p)))), (5, .int (nI m0)), (6, .int (nI b)), (7, .int (nI X + 1))] [] σ1 Q := fun hn => ih (X + 1) (by omega) σ1 b hb9 hF ⟨fun Z hZ hV => by
      by_cases e : Z = X
      · subst e; exact absurd hV hn
      · exact hB.1 Z (by omega) hV, hB.2⟩ _ (nI_1 X)
    have out : ¬ Vs p s k X → ∀ c9 : Int32, zA (d + 5) 169 156 [(0, .ref 70), (1, .int (nI s)), (2, .int (nI k)), (3, .int (nI (bn (swb p s) (pw p)))), (5, .int (nI m0)), (6, .int (nI b)), (7, .int (nI X)), (8, .int (nI 0)), (9, .int c9)] [] σ1 Q := fun hn c9 => by
      repeat refine zA_step rfl rfl ?_
      refine zA_dr rfl rfl rfl ?_
      exact skip hn
    have no : ¬ (X &&& (63 ^^^ bn (swb p s) (pw p)) = 0 ∧ pc6 X ≤ k) → zA (d + 5) 169 103 [(0, .ref 70), (1, .int (nI s)), (2, .int (nI k)), (3, .int (nI (bn (swb p s) (pw p)))), (5, .int (nI m0)), (6, .int (nI b)), (7, .int (nI X)), (8, .int (nI false.toNat)), (9, .int 0)] [] σ1 Q := fun hn => by
      have hn' : ¬ Vs p s k X := fun h => hn ⟨h.1, h.2.1⟩
      exact mo_kinds_lp hM1 hW hX6 false (fun h => by cases h) (fun _ => out hn' (nI (pw p)))
    refine zA_s0 rfl ?_
    repeat refine zA_step rfl rfl ?_
    refine zA_f (by simp (disch := omega) only [nu_lt, nu_le, nu_eq, nu_cmp_lt, nu_cmp_gt, nu_cmp_ge, nu_cmp_le, nu_wide, Int32.toInt_add, Int32.toInt_sub, Int32.toInt_mul, nu_I, Nat.reducePow, nu_bm, Int32.reduceToInt, Int64.reduceToInt]; omega) ?_
    repeat refine zA_step rfl rfl ?_
    rw [nu_sub6 X hX6 _ hwho]
    have hand : X &&& (63 ^^^ bn (swb p s) (pw p)) < 64 := Nat.lt_of_le_of_lt Nat.and_le_left hX6
    by_cases e1 : X &&& (63 ^^^ bn (swb p s) (pw p)) = 0
    rotate_left
    · refine zA_f (by simp (disch := omega) only [nu_lt, nu_le, nu_eq, nu_cmp_lt, nu_cmp_gt, nu_cmp_ge, nu_cmp_le, nu_wide, Int32.toInt_add, Int32.toInt_sub, Int32.toInt_mul, nu_I, Nat.reducePow, nu_bm, Int32.reduceToInt, Int64.reduceToInt]; omega) ?_
      repeat refine zA_step rfl rfl ?_
      exact no (fun z => e1 z.1)
    rw [e1]
    repeat refine zA_step rfl rfl ?_
    refine zA_call rfl rfl (mo_bits hX6 ?_)
    have hp6 : pc6 X ≤ 6 := cn_le _ _
    repeat refine zA_step rfl rfl ?_
    by_cases e2 : pc6 X ≤ k
    rotate_left
    · refine zA_t (by simp (disch := omega) only [nu_lt, nu_le, nu_eq, nu_cmp_lt, nu_cmp_gt, nu_cmp_ge, nu_cmp_le, nu_wide, Int32.toInt_add, Int32.toInt_sub, Int32.toInt_mul, nu_I, Nat.reducePow, nu_bm, Int32.reduceToInt, Int64.reduceToInt]; omega) ?_
      repeat refine zA_step rfl rfl ?_
      exact no (fun z => e2 z.2)
    refine zA_f (by simp (disch := omega) only [nu_lt, nu_le, nu_eq, nu_cmp_lt, nu_cmp_gt, nu_cmp_ge, nu_cmp_le, nu_wide, Int32.toInt_add, Int32.toInt_sub, Int32.toInt_mul, nu_I, Nat.reducePow, nu_bm, Int32.reduceToInt, Int64.reduceToInt]; omega) ?_
    repeat refine zA_step rfl rfl ?_
    refine mo_kinds_lp hM1 hW hX6 true (fun _ c hc => ?_) (fun h => by cases h)
    cases c with
    | false => exact out (fun h => by have := hc.mpr h.2.2; cases this) _
    | true =>
      have hV : Vs p s k X := ⟨e1, e2, hc.mp rfl⟩
      repeat refine zA_step rfl rfl ?_
      refine zA_call rfl rfl (mo_laySaid (msk := X) hM1 hW hY hs hX6 (fun σ2 S a1 a2 a3 a4 => ?_))
      rw [fL_X] at a4
      have hSl : S.length = (LX X (vL p s)).length := by rw [a4.length_eq, List.length_map]
      have hSl2 := LX_len X (vL p s)
      have hl6 := vL_len (s := s) hW
      obtain ⟨v, hv⟩ := tk_get (show (LX X (vL p s)).length / 2 < S.length by omega)
      have hmed := SD_med a3 a4 hv
      have v9 := isM_le (LX_99 (vL_99 hW hs)) hmed
      have vge := LX_ge hW hs hmed hm0
      rw [← hSl] at hv
      have e3 : nI S.length / 2 = nI (S.length / 2) := by rw [show (2 : Int32) = nI 2 from rfl, nu_tdiv (by omega) (by omega) (by omega)]
      repeat refine zA_step rfl rfl ?_
      refine zA_ld (j := S.length / 2) rfl e3 (by omega) (by decide) (a2 _ v hv) ?_
      repeat refine zA_step rfl rfl ?_
      by_cases c1 : b < v - m0
      · refine zA_f (by simp (disch := omega) only [nu_lt, nu_le, nu_eq, nu_cmp_lt, nu_cmp_gt, nu_cmp_ge, nu_cmp_le, nu_wide, Int32.toInt_add, Int32.toInt_sub, Int32.toInt_mul, nu_I, Nat.reducePow, nu_bm, Int32.reduceToInt, Int64.reduceToInt]; omega) ?_
        repeat refine zA_step rfl rfl ?_
        refine zA_ld (j := S.length / 2) rfl e3 (by omega) (by decide) (a2 _ v hv) ?_
        repeat refine zA_step rfl rfl ?_
        refine zA_dr rfl rfl rfl ?_
        rw [show nI v - nI m0 = nI (v - m0) from (by rw [nu_eq]; simp (disch := omega) only [Int32.toInt_add, Int32.toInt_sub, Int32.toInt_mul, nu_I, Nat.reducePow, nu_bm, Int32.reduceToInt, Int64.reduceToInt]; omega)]
        refine ih (X + 1) (by omega) σ2 (v - m0) (by omega) (hF.tr a1) ⟨fun Z hZ hVZ u hu => ?_, Or.inr ⟨X, hV, by rw [show m0 + (v - m0) = v by omega]; exact hmed⟩⟩ _ (nI_1 X)
        by_cases e : Z = X
        · subst e
          have := mid_uniq hu.1 hu.2 hmed.1 hmed.2
          omega
        · have := hB.1 Z (by omega) hVZ u hu
          omega
      · refine zA_t (by simp (disch := omega) only [nu_lt, nu_le, nu_eq, nu_cmp_lt, nu_cmp_gt, nu_cmp_ge, nu_cmp_le, nu_wide, Int32.toInt_add, Int32.toInt_sub, Int32.toInt_mul, nu_I, Nat.reducePow, nu_bm, Int32.reduceToInt, Int64.reduceToInt]; omega) ?_
        repeat refine zA_step rfl rfl ?_
        refine zA_dr rfl rfl rfl ?_
        refine ih (X + 1) (by omega) σ2 b hb9 (hF.tr a1) ⟨fun Z hZ hVZ u hu => ?_, hB.2⟩ _ (nI_1 X)
        by_cases e : Z = X
        · subst e
          have := mid_uniq hu.1 hu.2 hmed.1 hmed.2
          omega
        · exact hB.1 Z (by omega) hVZ u hu
set_option maxHeartbeats 4000000 in
set_option maxRecDepth 100000 in
theorem pr_shift {d : Nat} {σ : zSo} (x y : Int32) (hR : R σ) : zPair (d + 20) 81 169 [.int x, .int y] σ := by
  obtain ⟨-, -, -, -, ⟨p, ⟨hW, hC, hM, -, -⟩, -⟩, -⟩ := id hR
  have ws6 := hW.2.2.2.1
  have w6 := hW.2.2.2.2.1
  have hk : zK σ (zup σ 70 0 0) := zK.rf.up rfl
  have hM' : PM (zup σ 70 0 0 74) p := hM
  have bad : ¬ ((0 ≤ x.toInt ∧ x.toInt < ps p) ∧ (0 ≤ y.toInt ∧ y.toInt ≤ 6)) → zC (d + 20) 169 [.ref 70, .int x, .int y] σ (fun r2 σ2 => r2 = some (.int (-1000001)) ∧ R σ2 ∧ ∀ k, 1000 ≤ k → σ2 k = σ k) := by
    intro hn
    show zA (d + 20) _ 0 [(0, .ref 70), (1, .int x), (2, .int y)] [] σ _
    repeat refine zA_step rfl rfl ?_
    refine zA_call rfl rfl (mo_isStone hM' ws6 (fun s hs e => ?_) (fun h => ?_))
    rotate_left
    · repeat refine zA_step rfl rfl ?_
      exact zA_ret rfl ⟨rfl, hR.kp hk⟩
    subst e
    repeat refine zA_step rfl rfl ?_
    refine zA_call rfl rfl (mo_inI 0 6 (by decide) (by decide) (fun z1 z2 => ?_) (fun z => ?_))
    · rw [nu_I (by omega)] at hn
      exact absurd ⟨⟨by omega, by omega⟩, ⟨z1, z2⟩⟩ hn
    · repeat refine zA_step rfl rfl ?_
      exact zA_ret rfl ⟨rfl, hR.kp hk⟩
  show zA (d + 20) _ 0 [(0, .ref 0), (1, .int x), (2, .int y)] [] σ _
  repeat refine zA_step rfl rfl ?_
  refine zA_call rfl rfl (cl_isStone hC ws6 (fun s hs e => ?_) (fun h => ?_))
  rotate_left
  · repeat refine zA_step rfl rfl ?_
    exact zA_ret rfl ⟨_, rfl, bad (fun z => h z.1)⟩
  subst e
  repeat refine zA_step rfl rfl ?_
  refine zA_c (fun c1 => ?_) (fun c1 => ?_)
  · repeat refine zA_step rfl rfl ?_
    rw [nu_lt] at c1
    exact zA_ret rfl ⟨_, rfl, bad (fun z => by have := z.2.1; have e : (0 : Int32).toInt = 0 := rfl; omega)⟩
  repeat refine zA_step rfl rfl ?_
  refine zA_c (fun c2 => ?_) (fun c2 => ?_)
  rotate_left
  · repeat refine zA_step rfl rfl ?_
    rw [nu_le] at c2
    exact zA_ret rfl ⟨_, rfl, bad (fun z => by have := z.2.2; have e : (6 : Int32).toInt = 6 := rfl; omega)⟩
  obtain ⟨m, hm, e⟩ := nu_of (n := 7) (x := y) (by rw [nu_lt] at c1; have e : (0 : Int32).toInt = 0 := rfl; omega) (by rw [nu_le] at c2; have e : (6 : Int32).toInt = 6 := rfl; omega)
  subst e
  repeat refine zA_step rfl rfl ?_
  refine zA_call rfl rfl (cl_gather hC hW (by omega) hs (fun σ2 hF hO => ?_))
  have hk2 := zK_os hF
  have hC2 : PC σ2 20 p := hC.fr hW (fun k h1 h2 => hF k (by simp only [List.mem_cons, List.not_mem_nil, or_false]; omega))
  have hl6 := vL_len (s := s) hW
  have tomod : ∀ (σ3 : zSo), zFr [64, 65, 66] σ σ3 → ∀ (Q : Option Value → zSo → Prop), zA (d + 20) 169 36 [(0, .ref 70), (1, .int (nI s)), (2, .int (nI m))] [.int (nI (bn (swb p s) (pw p)))] (zup σ3 70 0 0) Q → zC (d + 20) 169 [.ref 70, .int (nI s), .int (nI m)] σ3 Q := by
    intro σ3 hF3 Q K
    have hM3 : PM (zup σ3 70 0 0 74) p := by
      show PM (σ3 74) p
      rw [hF3 _ (by decide)]; exact hM
    show zA (d + 20) _ 0 [(0, .ref 70), (1, .int (nI s)), (2, .int (nI m))] [] σ3 _
    repeat refine zA_step rfl rfl ?_
    refine zA_call rfl rfl (mo_isStone hM3 ws6 (fun s' hs' e => ?_) (fun h => nu_abs2 hs (by omega) h))
    repeat refine zA_step rfl rfl ?_
    refine zA_call rfl rfl (mo_inI 0 6 (by decide) (by decide) (fun z1 z2 => ?_) (fun z => absurd ⟨by rw [nu_I (by omega)]; omega, by rw [nu_I (by omega)]; omega⟩ z))
    repeat refine zA_step rfl rfl ?_
    refine zA_call rfl rfl (mo_whoSwears (Or.inl rfl) hM3 hW (by omega) hs ?_)
    exact K
  have hlen : (vL p s).length = pc6 (bn (swb p s) (pw p)) := by rw [pc6_bn _ w6]; exact vK_len p s _
  have hwho := bn_lt64 (swb p s) w6
  have pz : ∀ x, x < 64 → (pc6 x = 0 ↔ x = 0) := by decide +kernel
  repeat refine zA_step rfl rfl ?_
  rw [hO.2.1]
  by_cases h0 : (vL p s).length = 0
  · have hb0 := (pz _ hwho).mp (by omega)
    rw [h0]
    rw [hb0] at tomod
    repeat refine zA_step rfl rfl ?_
    refine zA_ret rfl ⟨_, rfl, tomod σ2 hF _ ?_⟩
    repeat refine zA_step rfl rfl ?_
    exact zA_ret rfl ⟨rfl, hR.kp (hk2.up rfl)⟩
  refine zA_f (by simp (disch := omega) only [nu_lt, nu_le, nu_eq, nu_cmp_lt, nu_cmp_gt, nu_cmp_ge, nu_cmp_le, nu_wide, Int32.toInt_add, Int32.toInt_sub, Int32.toInt_mul, nu_I, Nat.reducePow, nu_bm, Int32.reduceToInt, Int64.reduceToInt]; omega) ?_
  repeat refine zA_step rfl rfl ?_
  have h99 := vL_99 hW hs
  refine zA_call rfl rfl (cl_middle hO (mid_ex h99 h0) (fun y0 b1 b2 => ?_))
  repeat refine zA_step rfl rfl ?_
  refine zA_call rfl rfl (cl_raiseBribed hO hC2 hW (vK_ord p s _) (fun q hq => (vK_mem hq).1) (by omega) (fun σ3 G hF3 hO3 hG => ?_))
  repeat refine zA_step rfl rfl ?_
  refine zA_call rfl rfl (cl_middle hO3 (mid_ex (LX_99 h99) (by rw [LX_len]; exact h0)) (fun y1 d1 d2 => ?_))
  repeat refine zA_step rfl rfl ?_
  have hm0 : isM (vL p s) y0 := ⟨b1, b2⟩
  have hm1 : isM (LX G (vL p s)) y1 := ⟨d1, d2⟩
  have y09 := isM_le h99 hm0
  have y19 := isM_le (LX_99 h99) hm1
  have y01 := LX_ge hW hs hm1 hm0
  refine zA_ret rfl ⟨_, rfl, tomod σ3 (hF.tr hF3) _ ?_⟩
  have hM3 : PM (zup σ3 70 0 0 74) p := by
    show PM (σ3 74) p
    rw [(hF.tr hF3) _ (by decide)]; exact hM
  have hk3 := (zK_os (hF.tr hF3)).up (a := 70) (j := 0) (v := 0) rfl
  have hb0 : bn (swb p s) (pw p) ≠ 0 := fun e => by
    have := (pz _ hwho).mpr e
    omega
  repeat refine zA_step rfl rfl ?_
  refine zA_f (by simp (disch := omega) only [nu_lt, nu_le, nu_eq, nu_cmp_lt, nu_cmp_gt, nu_cmp_ge, nu_cmp_le, nu_wide, Int32.toInt_add, Int32.toInt_sub, Int32.toInt_mul, nu_I, Nat.reducePow, nu_bm, Int32.reduceToInt, Int64.reduceToInt]; omega) ?_
  repeat refine zA_step rfl rfl ?_
  refine zA_call rfl rfl (mo_laySaid (msk := 0) hM3 hW (by omega) hs (by omega) (fun σ4 S a1 a2 a3 a4 => ?_))
  rw [fL_0] at a4
  have hSl : S.length = (vL p s).length := by rw [a4.length_eq, List.length_map]; rfl
  obtain ⟨v, hv⟩ := tk_get (show (vL p s).length / 2 < S.length by omega)
  have hmed := SD_med (L := vL p s) a3 a4 hv
  rw [← hSl] at hv
  have e3 : nI S.length / 2 = nI (S.length / 2) := by rw [show (2 : Int32) = nI 2 from rfl, nu_tdiv (by omega) (by omega) (by omega)]
  repeat refine zA_step rfl rfl ?_
  refine zA_ld (j := S.length / 2) rfl e3 (by omega) (by decide) (a2 _ v hv) ?_
  repeat refine zA_step rfl rfl ?_
  refine zA_dr rfl rfl rfl ?_
  have hM4 : PM (σ4 74) p := by rw [a1 _ (by decide)]; exact hM3
  have ev : v = y0 := mid_uniq hmed.1 hmed.2 b1 b2
  subst ev
  refine mo_shift_lp hM4 hW (by omega) hs (k := m) (by omega) h0 hm0 (fun σ5 b hF5 hB => ⟨?_, hR.kp ((hk3.fr a1 ?_).fr hF5 ?_)⟩) (bn (swb p s) (pw p) + 1) 0 (by omega) σ4 0 (by omega) zFr.rf ⟨fun X hX => by omega, Or.inl rfl⟩ 0 rfl
  rotate_left
  · intro a ha j
    rw [List.mem_singleton.mp ha]; rfl
  · intro a ha j
    rw [List.mem_singleton.mp ha]; rfl
  obtain ⟨g1, g2, g3, g4⟩ := id hG
  have hGs : Vs p s m G := by
    refine ⟨sub6_of G g1 _ hwho (fun w hw hb => ?_), g2, fun w _ hb => (g3 w hb).1⟩
    obtain ⟨q, hq, e⟩ := (g3 w hb).2
    have := vK_mem hq
    rw [bn_tb, ← e]
    simp [swb, this]
  have u1 := hB.1 G (by have := sub6_le G g1 _ hwho hGs.1; omega) hGs y1 hm1
  have u2 : v + b ≤ y1 := by
    rcases hB.2 with e | ⟨X, hX1, hX2⟩
    · omega
    · exact hG.best hW hs hX1.2 hm1 hX2
  rw [show b = y1 - v by omega, show nI (y1 - v) = nI y1 - nI v from ?_]
  symm
  exact (by rw [nu_eq]; simp (disch := omega) only [Int32.toInt_add, Int32.toInt_sub, Int32.toInt_mul, nu_I, Nat.reducePow, nu_bm, Int32.reduceToInt, Int64.reduceToInt]; omega)
