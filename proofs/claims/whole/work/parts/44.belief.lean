/-! belief -/
theorem nu_27 {n c : Nat} {P : Nat → Nat → Prop} (h0 : 1 ≤ n) (hn : n ≤ 6) (hc : c ≤ n) (h : ∀ n, n < 7 → ∀ c, c < 7 → 1 ≤ n → c ≤ n → P n c) : P n c := h n (by omega) c (by omega) h0 hc
set_option maxHeartbeats 4000000 in
set_option maxRecDepth 100000 in
theorem cl_ilt {d n c k : Nat} {a : Int32} {σ : zSo} {Q : Option Value → zSo → Prop} (h0 : 1 ≤ n) (hn : n ≤ 6) (hc : c ≤ n) (hk : k < 2) (ha : a = if k = 0 then nI c else nI n) (hQ : Q (some (.int ((if k = 0 then nI c else nI n) / nI (Nat.gcd n c)))) σ) : zC d 105 [.int a, .int (nI c), .int (nI n)] σ Q := by
  show zA d _ 0 [(0, .int a), (1, .int (nI c)), (2, .int (nI n))] [] σ Q
  subst ha
  rcases (show k = 0 ∨ k = 1 by omega) with rfl | rfl
  all_goals
    rcases (show n = 1 ∨ n = 2 ∨ n = 3 ∨ n = 4 ∨ n = 5 ∨ n = 6 by omega) with rfl | rfl | rfl | rfl | rfl | rfl
    all_goals
      rcases (show c = 0 ∨ c = 1 ∨ c = 2 ∨ c = 3 ∨ c = 4 ∨ c = 5 ∨ c = 6 by omega) with rfl | rfl | rfl | rfl | rfl | rfl | rfl
      all_goals first
        | (exfalso; omega)
        | (repeat refine zA_s0 rfl ?_
           exact zA_ret rfl hQ)
set_option maxHeartbeats 4000000 in
set_option maxRecDepth 100000 in
theorem mo_euclid {d n c k : Nat} {σ : zSo} {Q : Option Value → zSo → Prop} (h0 : 1 ≤ n) (hn : n ≤ 6) (hc : c ≤ n) (hk : k < 2) (hQ : Q (some (.int ((if k = 0 then nI c else nI n) / nI (Nat.gcd n c)))) σ) : zA d 158 75 [(3, .int (nI k)), (4, .int (nI n)), (5, .int (nI c)), (6, .int (nI c)), (7, .int (nI n))] [] σ Q := by
  rcases (show k = 0 ∨ k = 1 by omega) with rfl | rfl
  all_goals
    rcases (show n = 1 ∨ n = 2 ∨ n = 3 ∨ n = 4 ∨ n = 5 ∨ n = 6 by omega) with rfl | rfl | rfl | rfl | rfl | rfl
    all_goals
      rcases (show c = 0 ∨ c = 1 ∨ c = 2 ∨ c = 3 ∨ c = 4 ∨ c = 5 ∨ c = 6 by omega) with rfl | rfl | rfl | rfl | rfl | rfl | rfl
      all_goals first
        | (exfalso; omega)
        | (repeat refine zA_s0 rfl ?_
           exact zA_ret rfl hQ)
set_option maxHeartbeats 4000000 in
set_option maxRecDepth 100000 in
theorem pr_belief {d : Nat} {σ : zSo} (x y z : Int32) (hR : R σ) : zPair (d + 20) 74 158 [.int x, .int y, .int z] σ := by
  obtain ⟨-, -, -, -, ⟨p, ⟨hW, hC, hM, -, -⟩, -⟩, -⟩ := id hR
  have ws6 := hW.2.2.2.1
  have hk : zK σ (zup σ 70 0 0) := zK.rf.up rfl
  have hM' : PM (zup σ 70 0 0 74) p := hM
  have bad : ¬ ((0 ≤ x.toInt ∧ x.toInt < ps p) ∧ (0 ≤ y.toInt ∧ y.toInt ≤ 99) ∧ (0 ≤ z.toInt ∧ z.toInt ≤ 1)) → zC (d + 20) 158 [.ref 70, .int x, .int y, .int z] σ (fun r2 σ2 => r2 = some (.int (-1000001)) ∧ R σ2 ∧ ∀ k, 1000 ≤ k → σ2 k = σ k) := by
    intro hn
    show zA (d + 20) _ 0 [(0, .ref 70), (1, .int x), (2, .int y), (3, .int z)] [] σ _
    repeat refine zA_step rfl rfl ?_
    refine zA_call rfl rfl (mo_isStone hM' ws6 (fun s hs e => ?_) (fun h => ?_))
    rotate_left
    · repeat refine zA_step rfl rfl ?_
      exact zA_ret rfl ⟨rfl, hR.kp hk⟩
    subst e
    repeat refine zA_step rfl rfl ?_
    refine zA_call rfl rfl (mo_inI 0 99 (by decide) (by decide) (fun z1 z2 => ?_) (fun z => ?_))
    rotate_left
    · repeat refine zA_step rfl rfl ?_
      exact zA_ret rfl ⟨rfl, hR.kp hk⟩
    repeat refine zA_step rfl rfl ?_
    refine zA_call rfl rfl (mo_inI 0 1 (by decide) (by decide) (fun y1 y2 => ?_) (fun z => ?_))
    · rw [nu_I (by omega)] at hn
      exact absurd ⟨⟨by omega, by omega⟩, ⟨z1, z2⟩, ⟨y1, y2⟩⟩ hn
    · repeat refine zA_step rfl rfl ?_
      exact zA_ret rfl ⟨rfl, hR.kp hk⟩
  show zA (d + 20) _ 0 [(0, .ref 0), (1, .int x), (2, .int y), (3, .int z)] [] σ _
  repeat refine zA_step rfl rfl ?_
  refine zA_call rfl rfl (cl_isStone hC ws6 (fun s hs e => ?_) (fun h => ?_))
  rotate_left
  · repeat refine zA_step rfl rfl ?_
    exact zA_ret rfl ⟨_, rfl, bad (fun z => h z.1)⟩
  subst e
  repeat refine zA_step rfl rfl ?_
  refine zA_call rfl rfl (cl_isYard (fun p1 p2 => ?_) (fun h => ?_))
  rotate_left
  · repeat refine zA_step rfl rfl ?_
    exact zA_ret rfl ⟨_, rfl, bad (fun z => h z.2.1)⟩
  obtain ⟨yd, hyd, e⟩ := nu_of (n := 100) (x := y) (by omega) (by omega)
  subst e
  repeat refine zA_step rfl rfl ?_
  refine zA_call rfl rfl (cl_isEither (fun k hk2 e => ?_) (fun h => ?_))
  rotate_left
  · repeat refine zA_step rfl rfl ?_
    exact zA_ret rfl ⟨_, rfl, bad (fun z => h z.2.2)⟩
  subst e
  repeat refine zA_step rfl rfl ?_
  refine zA_call rfl rfl (cl_gather hC hW (by omega) hs (fun σ2 hF hO => ?_))
  have hk2' := zK_os hF
  have hM2 : PM (zup σ2 70 0 0 74) p := by
    show PM (σ2 74) p
    rw [hF _ (by decide)]; exact hM
  have tomod : ∀ (Q : Option Value → zSo → Prop), zA (d + 20) 158 49 [(0, .ref 70), (1, .int (nI s)), (2, .int (nI yd)), (3, .int (nI k))] [.int (nI (vL p s).length)] (zup σ2 70 0 0) Q → zC (d + 20) 158 [.ref 70, .int (nI s), .int (nI yd), .int (nI k)] σ2 Q := by
    intro Q K
    show zA (d + 20) _ 0 [(0, .ref 70), (1, .int (nI s)), (2, .int (nI yd)), (3, .int (nI k))] [] σ2 _
    repeat refine zA_step rfl rfl ?_
    refine zA_call rfl rfl (mo_isStone hM2 ws6 (fun s' hs' e => ?_) (fun h => nu_abs2 hs (by omega) h))
    repeat refine zA_step rfl rfl ?_
    refine zA_call rfl rfl (mo_inI 0 99 (by decide) (by decide) (fun z1 z2 => ?_) (fun z => absurd ⟨p1, p2⟩ z))
    repeat refine zA_step rfl rfl ?_
    refine zA_call rfl rfl (mo_inI 0 1 (by decide) (by decide) (fun z1 z2 => ?_) (fun z => absurd ⟨by rw [nu_I (by omega)]; omega, by rw [nu_I (by omega)]; omega⟩ z))
    repeat refine zA_step rfl rfl ?_
    refine zA_call rfl rfl (mo_whoSwears (Or.inl rfl) hM2 hW (by omega) hs ?_)
    refine zA_call rfl rfl (mo_many hW rfl ?_)
    exact K
  have hm := hO.2.1
  have hl6 := vL_len (s := s) hW
  repeat refine zA_step rfl rfl ?_
  rw [hm]
  by_cases h0 : (vL p s).length = 0
  · rw [h0] at tomod ⊢
    repeat refine zA_step rfl rfl ?_
    refine zA_ret rfl ⟨_, rfl, tomod _ ?_⟩
    repeat refine zA_step rfl rfl ?_
    exact zA_ret rfl ⟨rfl, hR.kp (hk2'.up rfl)⟩
  refine zA_f (by simp (disch := omega) only [nu_lt, nu_le, nu_eq, nu_cmp_lt, nu_cmp_gt, nu_cmp_ge, nu_cmp_le, nu_wide, Int32.toInt_add, Int32.toInt_sub, Int32.toInt_mul, nu_I, Nat.reducePow, nu_bm, Int32.reduceToInt, Int64.reduceToInt]; omega) ?_
  repeat refine zA_step rfl rfl ?_
  refine zA_call rfl rfl (cl_alike hO ?_)
  rw [cnt_eq (vL_99 hW hs) (by omega)]
  have hcl : (vL p s).countP (fun q => q.2 == yd) ≤ (vL p s).length := List.countP_le_length
  have last : ∀ a : Int32, a = (if k = 0 then nI ((vL p s).countP (fun q => q.2 == yd)) else nI (vL p s).length) / nI (Nat.gcd (vL p s).length ((vL p s).countP (fun q => q.2 == yd))) → zC (d + 20) 158 [.ref 70, .int (nI s), .int (nI yd), .int (nI k)] σ2 (fun r2 σ3 => r2 = some (.int a) ∧ R σ3 ∧ ∀ k, 1000 ≤ k → σ3 k = σ k) := by
    intro a ha
    refine tomod _ ?_
    repeat refine zA_step rfl rfl ?_
    refine zA_f (by simp (disch := omega) only [nu_lt, nu_le, nu_eq, nu_cmp_lt, nu_cmp_gt, nu_cmp_ge, nu_cmp_le, nu_wide, Int32.toInt_add, Int32.toInt_sub, Int32.toInt_mul, nu_I, Nat.reducePow, nu_bm, Int32.reduceToInt, Int64.reduceToInt]; omega) ?_
    repeat refine zA_step rfl rfl ?_
    refine zA_call rfl rfl (mo_sayYard hM2 hW (by omega) hs (by omega) ?_)
    repeat refine zA_step rfl rfl ?_
    refine zA_dr rfl rfl rfl ?_
    refine mo_euclid (by omega) hl6 hcl hk2 ⟨by rw [ha], hR.kp (hk2'.up rfl)⟩
  rcases (show k = 0 ∨ k = 1 by omega) with rfl | rfl
  all_goals
    repeat refine zA_step rfl rfl ?_
    rw [hm]
    refine zA_call rfl rfl (cl_ilt (by omega) hl6 hcl hk2 rfl ?_)
    repeat refine zA_step rfl rfl ?_
    exact zA_ret rfl ⟨_, rfl, last _ rfl⟩
