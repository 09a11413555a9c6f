/-! image, restore -/
set_option maxHeartbeats 4000000 in
set_option maxRecDepth 100000 in
theorem pr_image {d : Nat} {σ : zSo} (x : Int32) (hR : R σ) : zPair (d + 20) 85 173 [.int x] σ := by
  obtain ⟨-, -, -, -, ⟨p, hp, L, hL⟩, hI⟩ := id hR
  obtain ⟨hW, hC, hM, hto, hsw⟩ := id hp
  have ws6 := hW.2.2.2.1
  have ww6 := hW.2.2.2.2.1
  have hk : zK σ (zup σ 70 0 0) := zK.rf.up rfl
  have hM' : PM (zup σ 70 0 0 74) p := hM
  have bad : ¬ (0 ≤ x.toInt ∧ x.toInt ≤ 1) → zC (d + 20) 173 [.ref 70, .int x] σ (fun r2 σ2 => r2 = some (.int (-1000001)) ∧ R σ2 ∧ ∀ k, 1000 ≤ k → σ2 k = σ k) := by
    intro hb
    show zA (d + 20) _ 0 [(0, .ref 70), (1, .int x)] [] σ _
    repeat refine zA_step rfl rfl ?_
    refine zA_call rfl rfl (mo_inI 0 1 (by decide) (by decide) (fun z1 z2 => absurd ⟨z1, z2⟩ hb) (fun z => ?_))
    repeat refine zA_step rfl rfl ?_
    exact zA_ret rfl ⟨rfl, hR.kp hk⟩
  show zA (d + 20) _ 0 [(0, .ref 0), (1, .int x)] [] σ _
  repeat refine zA_step rfl rfl ?_
  refine zA_c (fun c1 => ?_) (fun c1 => ?_)
  all_goals simp only [nu_lt, Int32.reduceToInt] at c1
  · repeat refine zA_step rfl rfl ?_
    exact zA_ret rfl ⟨_, rfl, bad (by omega)⟩
  repeat refine zA_step rfl rfl ?_
  refine zA_c (fun c2 => ?_) (fun c2 => ?_)
  all_goals simp only [nu_lt, Int32.reduceToInt] at c2
  rotate_left
  · repeat refine zA_step rfl rfl ?_
    exact zA_ret rfl ⟨_, rfl, bad (by omega)⟩
  obtain ⟨i, hi, e⟩ := nu_of (n := 2) (x := x) (by omega) (by omega)
  subst e
  by_cases h0 : 0 < ps p
  rotate_left
  · rw [if_neg h0] at hto
    repeat refine zA_step rfl rfl ?_
    refine zA_t hto ?_
    repeat refine zA_step rfl rfl ?_
    refine zA_ret rfl ⟨_, rfl, ?_⟩
    show zA (d + 20) _ 0 [(0, .ref 70), (1, .int (nI i))] [] σ _
    repeat refine zA_step rfl rfl ?_
    refine zA_call rfl rfl (mo_inI 0 1 (by decide) (by decide) (fun z1 z2 => ?_) (fun z => absurd ⟨by omega, by omega⟩ z))
    repeat refine zA_step rfl rfl ?_
    refine zA_call rfl rfl (mo_isThere hM' ws6 (fun h => absurd h h0) (fun h => ?_))
    repeat refine zA_step rfl rfl ?_
    exact zA_ret rfl ⟨rfl, hR.kp hk⟩
  rw [if_pos h0] at hto
  have hno : ¬ (σ 20 0 = 0) := by rw [hto]; decide
  -- the reference
  have fin : ∀ σ2 : zSo, zFr [39 + 9 * i, 39 + 9 * i + 1, 39 + 9 * i + 2, 39 + 9 * i + 3, 39 + 9 * i + 4, 39 + 9 * i + 5, 39 + 9 * i + 6, 39 + 9 * i + 7, 39 + 9 * i + 8] σ σ2 → PC σ2 (39 + 9 * i) p → σ2 (39 + 9 * i) 0 = σ 20 0 → zC (d + 20) 173 [.ref 70, .int (nI i)] σ2 (fun r2 σ3 => r2 = some (.int 1) ∧ R σ3 ∧ ∀ k, 1000 ≤ k → σ3 k = σ k) := by
    intro σ2 hF hC2 ht2
    have o2 : ∀ k, ¬ (39 ≤ k ∧ k ≤ 56) → σ2 k = σ k := fun k hk => hF k (by simp only [List.mem_cons, List.not_mem_nil, or_false]; omega)
    have hM2 : PM (zup σ2 70 0 0 74) p := by
      show PM (σ2 74) p
      rw [o2 _ (by omega)]; exact hM
    show zA (d + 20) _ 0 [(0, .ref 70), (1, .int (nI i))] [] σ2 _
    repeat refine zA_step rfl rfl ?_
    refine zA_call rfl rfl (mo_inI 0 1 (by decide) (by decide) (fun z1 z2 => ?_) (fun z => absurd ⟨by omega, by omega⟩ z))
    repeat refine zA_step rfl rfl ?_
    refine zA_call rfl rfl (mo_isThere hM2 ws6 (fun h => ?_) (fun h => absurd h (by omega)))
    repeat refine zA_step rfl rfl ?_
    have lp : ∀ m k, k + m = 143 → ∀ σk : zSo, zFr [82] (zup σ2 70 0 0) σk → (∀ y, σk 82 y = if 143 * i ≤ y ∧ y < 143 * i + k then σ 74 (y - 143 * i) else σ 82 y) → ∀ q : Int32, q = nI k → zA (d + 20) 173 30 [(0, .ref 70), (1, .int (nI i)), (2, .int q)] [] σk (fun r2 σ3 => r2 = some (.int 1) ∧ R σ3 ∧ ∀ k, 1000 ≤ k → σ3 k = σ k) := by
      intro m
      induction m with
      | zero =>
        intro k hk σk hF2 hx q eq
        subst eq
        have : k = 143 := by omega
        subst this
        refine zA_s0 rfl ?_
        repeat refine zA_step rfl rfl ?_
        refine zA_sto (j := i) (N := 2) rfl rfl (by omega) (by decide) ?_
        repeat refine zA_step rfl rfl ?_
        refine zA_ret rfl ⟨rfl, ?_⟩
        have o3 : ∀ k, k ≠ 81 → k ≠ 82 → k ≠ 70 → zup σk 81 i (vp_nar .boolean 1) k = σ2 k := fun k c1 c2 c3 => by
          rw [zup_o _ _ _ c1, hF2 k (by simpa using c2), zup_o _ _ _ c3]
        have hkk : ∀ y, zup σk 81 i (vp_nar .boolean 1) 82 y = if 143 * i ≤ y ∧ y < 143 * i + 143 then σ 74 (y - 143 * i) else σ 82 y := fun y => by
          rw [zup_o _ _ _ (by decide)]; exact hx y
        have hik : ∀ y, zup σk 81 i (vp_nar .boolean 1) 81 y = if y = i then 1 else σ 81 y := fun y => by
          rw [zup_k]
          show (if y = i then vp_nar .boolean 1 else σk 81 y) = _
          rw [hF2 _ (by decide), zup_o _ _ _ (by decide), o2 _ (by omega)]
          rfl
        have hmod : ∀ j, j ≠ 0 → zup σk 81 i (vp_nar .boolean 1) 70 j = σ 70 j := fun j hj => by
          rw [zup_o _ _ _ (by decide), hF2 _ (by decide), zup_k]
          simp only [upd]
          rw [if_neg hj, o2 _ (by omega)]
        generalize zup σk 81 i (vp_nar .boolean 1) = σ4 at o3 hkk hik hmod
        refine hR.img (fun k j hk => ?_) (fun k hk2 => ?_)
        · by_cases c1 : k = 81
          · subst c1; cases hk
          by_cases c2 : k = 82
          · subst c2; cases hk
          by_cases c3 : k = 70
          · subst c3
            exact hmod j (fun z => by subst z; cases hk)
          rw [o3 k c1 c2 c3, o2 k (fun z => ?_)]
          unfold zim at hk
          rw [Nat.ble_eq_true_of_le z.1, Nat.ble_eq_true_of_le z.2] at hk
          simp at hk
        · by_cases ek : k = i
          · subst ek
            refine Or.inr ⟨?_, by rw [hik, if_pos rfl], p, ⟨hW, h0, hsw.mp h0⟩, hC2.cong ws6 ww6 (fun j _ _ => by rw [o3 _ (by omega) (by omega) (by omega)]) (fun k c1 c2 j _ => by rw [o3 _ (by omega) (by omega) (by omega)]) (fun k c1 c2 j _ => by rw [o3 _ (by omega) (by omega) (by omega)]), hM.cong ws6 ww6 (fun j hj => ?_)⟩
            · rw [o3 _ (by omega) (by omega) (by omega), ht2, hto]
            · rw [hkk, if_pos (by omega), show 143 * k + j - 143 * k = j from by omega]
          · have oo : ∀ a, 39 + 9 * k ≤ a → a ≤ 39 + 9 * k + 8 → σ4 a = σ a := fun a c1 c2 => by
              rw [o3 _ (by omega) (by omega) (by omega), hF a (by simp only [List.mem_cons, List.not_mem_nil, or_false]; omega)]
            have h9 := hI k hk2
            unfold rImg
            rw [oo _ (by omega) (by omega), hik, if_neg ek]
            rcases h9 with h9 | ⟨c1, c2, q, c3, c4, c5⟩
            · exact Or.inl h9
            · refine Or.inr ⟨c1, c2, q, c3, c4.cong c3.1.2.2.2.1 c3.1.2.2.2.2.1 (fun j _ _ => by rw [oo _ (by omega) (by omega)]) (fun k c1 c2 j _ => by rw [oo _ (by omega) (by omega)]) (fun k c1 c2 j _ => by rw [oo _ (by omega) (by omega)]), c5.cong c3.1.2.2.2.1 c3.1.2.2.2.2.1 (fun j hj => ?_)⟩
              rw [hkk, if_neg (by omega)]
      | succ m ih =>
        intro k hk σk hF2 hx q eq
        subst eq
        refine zA_s0 rfl ?_
        repeat refine zA_step rfl rfl ?_
        refine zA_f (by simp (disch := omega) only [nu_lt, nu_le, nu_eq, nu_cmp_lt, nu_cmp_gt, nu_cmp_ge, nu_cmp_le, nu_wide, Int32.toInt_add, Int32.toInt_sub, Int32.toInt_mul, nu_I, Nat.reducePow, nu_bm, Int32.reduceToInt, Int64.reduceToInt]; omega) ?_
        repeat refine zA_step rfl rfl ?_
        refine zA_ld (j := k) rfl rfl (by omega) (by decide) (v := σ 74 k) (by rw [hF2 _ (by decide), zup_o _ _ _ (by decide), o2 _ (by omega)]) ?_
        refine zA_sto (j := 143 * i + k) rfl (by rw [nu_eq]; simp (disch := omega) only [Int32.toInt_add, Int32.toInt_sub, Int32.toInt_mul, nu_I, Nat.reducePow, nu_bm, Int32.reduceToInt, Int64.reduceToInt]; omega) (by omega) (by decide) ?_
        repeat refine zA_step rfl rfl ?_
        refine ih (k + 1) (by omega) _ (hF2.up (by simp)) (fun y => ?_) _ (nI_1 k)
        rw [zup_k]
        simp only [upd]
        by_cases e : y = 143 * i + k
        · rw [if_pos e, if_pos (by omega), show y - 143 * i = k from by omega]
        · rw [if_neg e, hx y]
          by_cases e2 : 143 * i ≤ y ∧ y < 143 * i + k
          · rw [if_pos e2, if_pos (by omega)]
          · rw [if_neg e2, if_neg (by omega)]
    exact lp 143 0 (by omega) _ zFr.rf (fun y => by rw [if_neg (by omega), zup_o _ _ _ (by decide), o2 _ (by omega)]) 0 rfl
  rcases (show i = 0 ∨ i = 1 by omega) with rfl | rfl
  · repeat refine zA_step rfl rfl ?_
    refine zA_f hno ?_
    repeat refine zA_step rfl rfl ?_
    refine zA_call rfl rfl (cl_become (P := 39) (O := 20) (Or.inr (Or.inr (Or.inl ⟨rfl, rfl⟩))) hC hW (Or.inr hto) (fun σ2 a1 a2 a3 => ?_))
    repeat refine zA_step rfl rfl ?_
    exact zA_ret rfl ⟨_, rfl, fin σ2 a1 a2 a3⟩
  · repeat refine zA_step rfl rfl ?_
    refine zA_f hno ?_
    repeat refine zA_step rfl rfl ?_
    refine zA_call rfl rfl (cl_become (P := 48) (O := 20) (Or.inr (Or.inr (Or.inr (Or.inl ⟨rfl, rfl⟩)))) hC hW (Or.inr hto) (fun σ2 a1 a2 a3 => ?_))
    repeat refine zA_step rfl rfl ?_
    exact zA_ret rfl ⟨_, rfl, fin σ2 a1 a2 a3⟩
set_option maxHeartbeats 4000000 in
set_option maxRecDepth 100000 in
theorem pr_restore {d : Nat} {σ : zSo} (x : Int32) (hR : R σ) : zPair (d + 20) 86 174 [.int x] σ := by
  obtain ⟨-, -, -, -, ⟨p, hp, L, hL⟩, hI⟩ := id hR
  obtain ⟨-, -, nx, hnx, hx1, -⟩ := (rActs_iff.mp hL).1
  have hk : zK σ (zup σ 70 0 0) := zK.rf.up rfl
  have bad : ¬ (0 ≤ x.toInt ∧ x.toInt ≤ 1) → zC (d + 20) 174 [.ref 70, .int x] σ (fun r2 σ2 => r2 = some (.int (-1000001)) ∧ R σ2 ∧ ∀ k, 1000 ≤ k → σ2 k = σ k) := by
    intro hb
    show zA (d + 20) _ 0 [(0, .ref 70), (1, .int x)] [] σ _
    repeat refine zA_step rfl rfl ?_
    refine zA_call rfl rfl (mo_inI 0 1 (by decide) (by decide) (fun z1 z2 => absurd ⟨z1, z2⟩ hb) (fun z => ?_))
    repeat refine zA_step rfl rfl ?_
    exact zA_ret rfl ⟨rfl, hR.kp hk⟩
  show zA (d + 20) _ 0 [(0, .ref 0), (1, .int x)] [] σ _
  repeat refine zA_step rfl rfl ?_
  refine zA_c (fun c1 => ?_) (fun c1 => ?_)
  all_goals simp only [nu_lt, Int32.reduceToInt] at c1
  · repeat refine zA_step rfl rfl ?_
    exact zA_ret rfl ⟨_, rfl, bad (by omega)⟩
  repeat refine zA_step rfl rfl ?_
  refine zA_c (fun c2 => ?_) (fun c2 => ?_)
  all_goals simp only [nu_lt, Int32.reduceToInt] at c2
  rotate_left
  · repeat refine zA_step rfl rfl ?_
    exact zA_ret rfl ⟨_, rfl, bad (by omega)⟩
  obtain ⟨i, hi, e⟩ := nu_of (n := 2) (x := x) (by omega) (by omega)
  subst e
  rcases hI i hi with ⟨t0, k0⟩ | ⟨t1, k1, q, hq, hCq, hMq⟩
  · have fin : zC (d + 20) 174 [.ref 70, .int (nI i)] σ (fun r2 σ2 => r2 = some (.int (-1000002)) ∧ R σ2 ∧ ∀ k, 1000 ≤ k → σ2 k = σ k) := by
      show zA (d + 20) _ 0 [(0, .ref 70), (1, .int (nI i))] [] σ _
      repeat refine zA_step rfl rfl ?_
      refine zA_call rfl rfl (mo_inI 0 1 (by decide) (by decide) (fun z1 z2 => ?_) (fun z => absurd ⟨by omega, by omega⟩ z))
      repeat refine zA_step rfl rfl ?_
      refine zA_ld (j := i) (N := 2) rfl rfl (by omega) (by decide) k0 ?_
      repeat refine zA_step rfl rfl ?_
      exact zA_ret rfl ⟨rfl, hR.kp hk⟩
    rcases (show i = 0 ∨ i = 1 by omega) with rfl | rfl
    all_goals
      repeat refine zA_step rfl rfl ?_
      refine zA_t t0 ?_
      repeat refine zA_step rfl rfl ?_
      exact zA_ret rfl ⟨_, rfl, fin⟩
  · have ws6 := hq.1.2.2.2.1
    have ww6 := hq.1.2.2.2.2.1
    have fin : ∀ σ2 : zSo, zFr [20, 20 + 1, 20 + 2, 20 + 3, 20 + 4, 20 + 5, 20 + 6, 20 + 7, 20 + 8] σ σ2 → PC σ2 20 q → σ2 20 0 = 1 → zC (d + 20) 174 [.ref 70, .int (nI i)] (zup σ2 57 0 0) (fun r2 σ3 => r2 = some (.int 1) ∧ R σ3 ∧ ∀ k, 1000 ≤ k → σ3 k = σ k) := by
      intro σ2 hF hC2 ht2
      have o2 : ∀ k, ¬ (20 ≤ k ∧ k ≤ 28) → σ2 k = σ k := fun k hk => hF k (by simp only [List.mem_cons, List.not_mem_nil, or_false]; omega)
      have k1' : zup (zup σ2 57 0 0) 70 0 0 81 i = 1 := by
        rw [zup_o _ _ _ (by decide), zup_o _ _ _ (by decide), o2 _ (by omega)]; exact k1
      show zA (d + 20) _ 0 [(0, .ref 70), (1, .int (nI i))] [] _ _
      repeat refine zA_step rfl rfl ?_
      refine zA_call rfl rfl (mo_inI 0 1 (by decide) (by decide) (fun z1 z2 => ?_) (fun z => absurd ⟨by omega, by omega⟩ z))
      repeat refine zA_step rfl rfl ?_
      refine zA_ld (j := i) (N := 2) rfl rfl (by omega) (by decide) k1' ?_
      repeat refine zA_step rfl rfl ?_
      have lp : ∀ m k, k + m = 143 → ∀ σk : zSo, zFr [74] (zup (zup σ2 57 0 0) 70 0 0) σk → (∀ y, y < k → σk 74 y = σ 82 (143 * i + y)) → ∀ q : Int32, q = nI k → zA (d + 20) 174 32 [(0, .ref 70), (1, .int (nI i)), (2, .int q)] [] σk (fun r2 σ3 => r2 = some (.int 1) ∧ R σ3 ∧ ∀ k, 1000 ≤ k → σ3 k = σ k) := by
        intro m
        induction m with
        | zero =>
          intro k hk σk hF2 hx q' eq
          subst eq
          have : k = 143 := by omega
          subst this
          refine zA_s0 rfl ?_
          repeat refine zA_step rfl rfl ?_
          refine zA_ret rfl ⟨rfl, ?_⟩
          have o3 : ∀ k, k ≠ 74 → k ≠ 57 → k ≠ 70 → zup σk 70 9 0 k = σ2 k := fun k c1 c2 c3 => by
            rw [zup_o _ _ _ c3, hF2 k (by simpa using c1), zup_o _ _ _ c3, zup_o _ _ _ c2]
          have hmod : ∀ j, j ≠ 0 → j ≠ 9 → zup σk 70 9 0 70 j = σ 70 j := fun j hj hj2 => by
            rw [zup_k, hF2 _ (by decide), zup_k, zup_o _ _ _ (by decide), o2 _ (by omega)]
            simp only [upd]
            rw [if_neg hj2, if_neg hj]
          have hacc : ∀ j, zup σk 70 9 0 57 j = if j = 0 then 0 else σ 57 j := fun j => by
            rw [zup_o _ _ _ (by decide), hF2 _ (by decide), zup_o _ _ _ (by decide), zup_k, o2 _ (by omega)]
            rfl
          have hma0 : zup σk 70 9 0 70 9 = 0 := by simp [zup_k, upd]
          have hMp : PM (zup σk 70 9 0 74) q := hMq.cong ws6 ww6 (fun j hj => by rw [zup_o _ _ _ (by decide)]; exact hx j hj)
          generalize zup σk 70 9 0 = σ4 at o3 hmod hacc hma0 hMp
          refine hR.par (p := q) (L := []) (fun k j hk => ?_) ⟨hq.1, hC2.fr hq.1 (fun k c1 c2 => by rw [o3 k (by omega) (by omega) (by omega)]), hMp, ?_, ⟨fun _ => hq.2.2, fun _ => hq.2.1⟩⟩ (rActs_iff.mpr ⟨⟨by simp, ?_, nx, hnx, ?_, trivial⟩, hma0, fun i q' hi => by simp at hi⟩)
          · by_cases c1 : k = 74
            · subst c1; cases hk
            by_cases c2 : k = 57
            · subst c2; cases hk
            by_cases c3 : k = 70
            · subst c3
              exact hmod j (fun z => by subst z; cases hk) (fun z => by subst z; cases hk)
            rw [o3 k c1 c2 c3, o2 k (fun z => ?_)]
            unfold zpa at hk
            rw [Nat.ble_eq_true_of_le z.1, Nat.ble_eq_true_of_le z.2] at hk
            simp at hk
          · rw [o3 _ (by decide) (by decide) (by decide), ht2, if_pos hq.2.1]
          · rw [hacc, if_pos rfl]; rfl
          · rw [hacc, if_neg (by decide)]; exact hx1
        | succ m ih =>
          intro k hk σk hF2 hx q' eq
          subst eq
          refine zA_s0 rfl ?_
          repeat refine zA_step rfl rfl ?_
          refine zA_f (by simp (disch := omega) only [nu_lt, nu_le, nu_eq, nu_cmp_lt, nu_cmp_gt, nu_cmp_ge, nu_cmp_le, nu_wide, Int32.toInt_add, Int32.toInt_sub, Int32.toInt_mul, nu_I, Nat.reducePow, nu_bm, Int32.reduceToInt, Int64.reduceToInt]; omega) ?_
          repeat refine zA_step rfl rfl ?_
          refine zA_ld (j := 143 * i + k) rfl (by rw [nu_eq]; simp (disch := omega) only [Int32.toInt_add, Int32.toInt_sub, Int32.toInt_mul, nu_I, Nat.reducePow, nu_bm, Int32.reduceToInt, Int64.reduceToInt]; omega) (by omega) (by decide) (v := σ 82 (143 * i + k)) (by rw [hF2 _ (by decide), zup_o _ _ _ (by decide), zup_o _ _ _ (by decide), o2 _ (by omega)]) ?_
          refine zA_sto (j := k) rfl rfl (by omega) (by decide) ?_
          repeat refine zA_step rfl rfl ?_
          refine ih (k + 1) (by omega) _ (hF2.up (by simp)) (fun y hy => ?_) _ (nI_1 k)
          rw [zup_k]
          simp only [upd]
          by_cases e : y = k
          · rw [if_pos e, e]
          · rw [if_neg e]; exact hx y (by omega)
      exact lp 143 0 (by omega) _ zFr.rf (fun y hy => by omega) 0 rfl
    have hno : ¬ (σ (39 + 9 * i) 0 = 0) := by rw [t1]; decide
    rcases (show i = 0 ∨ i = 1 by omega) with rfl | rfl
    · repeat refine zA_step rfl rfl ?_
      refine zA_f hno ?_
      repeat refine zA_step rfl rfl ?_
      refine zA_call rfl rfl (cl_become (P := 20) (O := 39) (Or.inr (Or.inr (Or.inr (Or.inr (Or.inl ⟨rfl, rfl⟩))))) hCq hq.1 (Or.inr t1) (fun σ2 a1 a2 a3 => ?_))
      repeat refine zA_step rfl rfl ?_
      refine zA_call rfl rfl ?_
      show zA (d + 19) _ 0 [(0, .ref 57)] [] σ2 _
      repeat refine zA_step rfl rfl ?_
      refine zA_ret rfl ?_
      repeat refine zA_step rfl rfl ?_
      exact zA_ret rfl ⟨_, rfl, fin σ2 a1 a2 (a3.trans t1)⟩
    · repeat refine zA_step rfl rfl ?_
      refine zA_f hno ?_
      repeat refine zA_step rfl rfl ?_
      refine zA_call rfl rfl (cl_become (P := 20) (O := 48) (Or.inr (Or.inr (Or.inr (Or.inr (Or.inr ⟨rfl, rfl⟩))))) hCq hq.1 (Or.inr t1) (fun σ2 a1 a2 a3 => ?_))
      repeat refine zA_step rfl rfl ?_
      refine zA_call rfl rfl ?_
      show zA (d + 19) _ 0 [(0, .ref 57)] [] σ2 _
      repeat refine zA_step rfl rfl ?_
      refine zA_ret rfl ?_
      repeat refine zA_step rfl rfl ?_
      exact zA_ret rfl ⟨_, rfl, fin σ2 a1 a2 (a3.trans t1)⟩
