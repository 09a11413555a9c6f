/-! sworn -/
theorem fL_0 (p : paT) (s k : Nat) : fL p s 0 k = (vK p s k).map (fun q => q.2) := by
  unfold fL
  apply List.map_congr_left
  intro q _
  simp
set_option maxHeartbeats 4000000 in
set_option maxRecDepth 100000 in
theorem mo_old_lp {d s Y : Nat} {σ : zSo} {Q : Option Value → zSo → Prop} {p : paT} {w4 : Int32} (hM : PM (σ 74) p) (hW : paW p Y) (hY : Y ≤ 2000) (hs : s < ps p) (h0 : (vL p s).length ≠ 0) (m : Nat)
    (hQ : ∀ q, Old p (vL p s) q → zA (d + 5) 156 143 [(0, .ref 70), (1, .int (nI s)), (2, .int (nI m)), (3, .int (nI (bn (swb p s) (pw p)))), (4, .int w4), (5, .int (nI q.1)), (6, .int (nI (pw p)))] [] σ Q) : zA (d + 5) 156 78 [(0, .ref 70), (1, .int (nI s)), (2, .int (nI m)), (3, .int (nI (bn (swb p s) (pw p)))), (4, .int w4), (5, .int NO), (6, .int 0)] [] σ Q := by
  have w6 := hW.2.2.2.2.1
  have hpy := hW.2.2.1
  have hb := bn_lt64 (swb p s) w6
  have age : ∀ w, w < pw p → σ 74 (11 + 4 * w + 1) = nI (pa p w) := fun w hw => (hM.2.2.2.2.2.1 w hw).2.1
  have lp : ∀ n k, k + n = pw p → ∀ a : Int32, ((vK p s k = [] ∧ a = NO) ∨ ∃ q, Old p (vK p s k) q ∧ a = nI q.1) → ∀ i : Int32, i = nI k → zA (d + 5) 156 78 [(0, .ref 70), (1, .int (nI s)), (2, .int (nI m)), (3, .int (nI (bn (swb p s) (pw p)))), (4, .int w4), (5, .int a), (6, .int i)] [] σ Q := by
    intro n
    induction n with
    | zero =>
      intro k hk a h i ei
      subst ei
      have : k = pw p := by omega
      subst this
      refine zA_s0 rfl ?_
      refine zA_s0 rfl ?_
      refine zA_s0 rfl ?_
      refine zA_s0 rfl ?_
      refine zA_s0 rfl ?_
      refine zA_s0 rfl ?_
      simp only [nu_c3, hM.2.2.1]
      refine zA_t (Int32.le_refl _) ?_
      rcases h with ⟨h, -⟩ | ⟨q, h, ea⟩
      · exact absurd (by unfold vL; rw [h]; rfl) h0
      · subst ea
        exact hQ q h
    | succ n ih =>
      intro k hk a h i ei
      subst ei
      refine zA_s0 rfl ?_
      repeat refine zA_step rfl rfl ?_
      simp only [nu_c3, hM.2.2.1]
      refine zA_f (by simp (disch := omega) only [nu_lt, nu_le, nu_eq, nu_cmp_lt, nu_cmp_gt, nu_cmp_ge, nu_cmp_le, nu_wide, Int32.toInt_add, Int32.toInt_sub, Int32.toInt_mul, nu_I, Nat.reducePow, nu_bm, Int32.reduceToInt, Int64.reduceToInt]; omega) ?_
      repeat refine zA_step rfl rfl ?_
      refine zA_call rfl rfl (mo_has hb (by omega) (fun hh => ?_) (fun hh => ?_))
      · rw [bn_tb] at hh
        have hk2 : swb p s k = true := by simpa using (Bool.and_eq_true_iff.mp hh).2
        obtain ⟨y, hy⟩ : ∃ y, sayO p k s = some y := by
          cases e : sayO p k s with
          | none => simp [swb, e] at hk2
          | some y => exact ⟨y, rfl⟩
        have hpa := (hW.2.2.2.2.2.2.1 k (by omega)).2.1
        have new : (∀ b ∈ vK p s k, pa p b.1 < pa p k) → zA (d + 5) 156 78 [(0, .ref 70), (1, .int (nI s)), (2, .int (nI m)), (3, .int (nI (bn (swb p s) (pw p)))), (4, .int w4), (5, .int (nI k)), (6, .int (nI k + 1))] [] σ Q := by
          intro hb
          refine ih (k + 1) (by omega) _ (Or.inr ⟨(k, y), ?_, rfl⟩) _ (nI_1 k)
          rw [vK_s hy]
          refine ⟨by simp, fun b hb' => ?_⟩
          rcases List.mem_append.mp hb' with h | h
          · have := hb b h
            exact ⟨Nat.le_of_lt this, fun e => by simp only at e; omega⟩
          · rw [List.mem_singleton.mp h]
            exact ⟨Nat.le_refl _, fun _ => Nat.le_refl _⟩
        repeat refine zA_step rfl rfl ?_
        rcases h with ⟨h, ea⟩ | ⟨q, h, ea⟩
        · subst ea
          refine zA_t rfl ?_
          repeat refine zA_step rfl rfl ?_
          refine new (fun b hb => ?_)
          rw [h] at hb; simp at hb
        · subst ea
          have hq := vK_mem h.1
          have hpa' := (hW.2.2.2.2.2.2.1 q.1 (by omega)).2.1
          refine zA_f (nu_nI_NO (by omega)) ?_
          repeat refine zA_step rfl rfl ?_
          refine zA_call rfl rfl (mo_of (k := 1) (Or.inl rfl) (by omega) (by omega) (age k (by omega)) ?_)
          repeat refine zA_step rfl rfl ?_
          refine zA_call rfl rfl (mo_of (k := 1) (Or.inl rfl) (by omega) (by omega) (age q.1 (by omega)) ?_)
          repeat refine zA_step rfl rfl ?_
          by_cases c : pa p q.1 < pa p k
          · refine zA_f (by simp (disch := omega) only [nu_lt, nu_le, nu_eq, nu_cmp_lt, nu_cmp_gt, nu_cmp_ge, nu_cmp_le, nu_wide, Int32.toInt_add, Int32.toInt_sub, Int32.toInt_mul, nu_I, Nat.reducePow, nu_bm, Int32.reduceToInt, Int64.reduceToInt]; omega) ?_
            repeat refine zA_step rfl rfl ?_
            refine new (fun b hb => ?_)
            have := (h.2 b hb).1
            omega
          · refine zA_t (by simp (disch := omega) only [nu_lt, nu_le, nu_eq, nu_cmp_lt, nu_cmp_gt, nu_cmp_ge, nu_cmp_le, nu_wide, Int32.toInt_add, Int32.toInt_sub, Int32.toInt_mul, nu_I, Nat.reducePow, nu_bm, Int32.reduceToInt, Int64.reduceToInt]; omega) ?_
            repeat refine zA_step rfl rfl ?_
            refine ih (k + 1) (by omega) _ (Or.inr ⟨q, ?_, rfl⟩) _ (nI_1 k)
            rw [vK_s hy]
            refine ⟨List.mem_append_left _ h.1, fun b hb' => ?_⟩
            rcases List.mem_append.mp hb' with hb' | hb'
            · exact h.2 b hb'
            · rw [List.mem_singleton.mp hb']
              exact ⟨by show pa p k ≤ _; omega, fun _ => by show q.1 ≤ k; omega⟩
      · rw [bn_tb] at hh
        have hk2 : sayO p k s = none := by
          cases e : sayO p k s with
          | none => rfl
          | some y =>
            have : swb p s k = true := by simp [swb, e]
            rw [this] at hh
            simp at hh
            omega
        repeat refine zA_step rfl rfl ?_
        refine ih (k + 1) (by omega) _ ?_ _ (nI_1 k)
        rw [vK_n hk2]
        exact h
  exact lp (pw p) 0 (by omega) NO (Or.inl ⟨rfl, rfl⟩) 0 rfl
theorem Old.uniq {p : paT} {L : List (Nat × Nat)} {q q' : Nat × Nat} (h : Old p L q) (h' : Old p L q') : q.1 = q'.1 := by
  have a := h.2 q' h'.1
  have b := h'.2 q h.1
  have e : pa p q'.1 = pa p q.1 := by omega
  have := a.2 e
  have := b.2 e.symm
  omega
theorem lts_ex {L : List (Nat × Nat)} {h : Nat} : ∀ N, h < lts L N → ∃ v, lts L v ≤ h ∧ h < lts L (v + 1)
  | 0, e => by
    have : lts L 0 = 0 := by
      unfold lts
      rw [List.countP_eq_zero]
      intro q _; simp
    omega
  | N + 1, e => by
    by_cases c : h < lts L N
    · exact lts_ex N c
    · exact ⟨N, by omega, e⟩
theorem lts_mono (L : List (Nat × Nat)) {a b : Nat} (h : a ≤ b) : lts L a ≤ lts L b := by
  unfold lts
  apply List.countP_mono_left
  intro q _ hq
  simp only [decide_eq_true_eq] at *
  omega
theorem lts_all {L : List (Nat × Nat)} {N : Nat} (h : ∀ q ∈ L, q.2 < N) : lts L N = L.length := by
  unfold lts
  rw [List.countP_eq_length]
  intro q hq
  simp [h q hq]
theorem mid_ex {L : List (Nat × Nat)} (h99 : ∀ q ∈ L, q.2 ≤ 99) (h0 : L.length ≠ 0) : ∃ q ∈ L, lts L q.2 ≤ L.length / 2 ∧ L.length / 2 < lts L (q.2 + 1) := by
  obtain ⟨v, h1, h2⟩ := lts_ex (L := L) (h := L.length / 2) 100 (by rw [lts_all (fun q hq => by have := h99 q hq; omega)]; omega)
  have := lts_s v L
  obtain ⟨q, hq, e⟩ := ct_mem (show 0 < ct L v by omega)
  subst e
  exact ⟨q, hq, h1, h2⟩
theorem mid_uniq {L : List (Nat × Nat)} {h v v' : Nat} (a1 : lts L v ≤ h) (a2 : h < lts L (v + 1)) (b1 : lts L v' ≤ h) (b2 : h < lts L (v' + 1)) : v = v' := by
  rcases Nat.lt_trichotomy v v' with c | c | c
  · have := lts_mono L (show v + 1 ≤ v' by omega)
    omega
  · exact c
  · have := lts_mono L (show v' + 1 ≤ v by omega)
    omega
set_option maxHeartbeats 4000000 in
set_option maxRecDepth 100000 in
theorem pr_sworn {d : Nat} {σ : zSo} (x y : Int32) (hR : R σ) : zPair (d + 20) 73 156 [.int x, .int y] σ := by
  obtain ⟨-, -, -, -, ⟨p, ⟨hW, hC, hM, -, -⟩, -⟩, -⟩ := id hR
  have ws6 := hW.2.2.2.1
  have w6 := hW.2.2.2.2.1
  have hk : zK σ (zup σ 70 0 0) := zK.rf.up rfl
  have hM' : PM (zup σ 70 0 0 74) p := hM
  have bad : ¬ ((0 ≤ x.toInt ∧ x.toInt < ps p) ∧ (0 ≤ y.toInt ∧ y.toInt ≤ 5)) → zC (d + 20) 156 [.ref 70, .int x, .int y] σ (fun r2 σ2 => r2 = some (.int (-1000001)) ∧ R σ2 ∧ ∀ k, 1000 ≤ k → σ2 k = σ k) := by
    intro hn
    show zA (d + 20) _ 0 [(0, .ref 70), (1, .int x), (2, .int y)] [] σ _
    repeat refine zA_step rfl rfl ?_
    refine zA_call rfl rfl (mo_isStone hM' ws6 (fun s hs e => ?_) (fun h => ?_))
    rotate_left
    · repeat refine zA_step rfl rfl ?_
      exact zA_ret rfl ⟨rfl, hR.kp hk⟩
    subst e
    repeat refine zA_step rfl rfl ?_
    refine zA_call rfl rfl (mo_inI 0 5 (by decide) (by decide) (fun z1 z2 => ?_) (fun z => ?_))
    · rw [nu_I (by omega)] at hn
      exact absurd ⟨⟨by omega, by omega⟩, ⟨z1, z2⟩⟩ hn
    · repeat refine zA_step rfl rfl ?_
      exact zA_ret rfl ⟨rfl, hR.kp hk⟩
  show zA (d + 20) _ 0 [(0, .ref 0), (1, .int x), (2, .int y)] [] σ _
  repeat refine zA_step rfl rfl ?_
  refine zA_call rfl rfl (cl_isStone hC ws6 (fun s hs e => ?_) (fun h => ?_))
  rotate_left
  · repeat refine zA_step rfl rfl ?_
    exact zA_ret rfl ⟨_, rfl, bad (fun z => h z.1)⟩
  subst e
  repeat refine zA_step rfl rfl ?_
  refine zA_c (fun c1 => ?_) (fun c1 => ?_)
  · repeat refine zA_step rfl rfl ?_
    rw [nu_lt] at c1
    exact zA_ret rfl ⟨_, rfl, bad (fun z => by have := z.2.1; have e : (0 : Int32).toInt = 0 := rfl; omega)⟩
  repeat refine zA_step rfl rfl ?_
  refine zA_c (fun c2 => ?_) (fun c2 => ?_)
  rotate_left
  · repeat refine zA_step rfl rfl ?_
    rw [nu_le] at c2
    exact zA_ret rfl ⟨_, rfl, bad (fun z => by have := z.2.2; have e : (5 : Int32).toInt = 5 := rfl; omega)⟩
  obtain ⟨m, hm, e⟩ := nu_of (n := 6) (x := y) (by rw [nu_lt] at c1; have e : (0 : Int32).toInt = 0 := rfl; omega) (by rw [nu_le] at c2; have e : (5 : Int32).toInt = 5 := rfl; omega)
  subst e
  repeat refine zA_step rfl rfl ?_
  refine zA_call rfl rfl (cl_gather hC hW (by omega) hs (fun σ2 hF hO => ?_))
  have hk2 := zK_os hF
  have hM2 : PM (zup σ2 70 0 0 74) p := by
    show PM (σ2 74) p
    rw [hF _ (by decide)]; exact hM
  have hC2 : PC σ2 20 p := hC.fr hW (fun k h1 h2 => hF k (by simp only [List.mem_cons, List.not_mem_nil, or_false]; omega))
  have hl6 := vL_len (s := s) hW
  have tomod : ∀ (Q : Option Value → zSo → Prop), zA (d + 20) 156 36 [(0, .ref 70), (1, .int (nI s)), (2, .int (nI m))] [.int (nI (bn (swb p s) (pw p)))] (zup σ2 70 0 0) Q → zC (d + 20) 156 [.ref 70, .int (nI s), .int (nI m)] σ2 Q := by
    intro Q K
    show zA (d + 20) _ 0 [(0, .ref 70), (1, .int (nI s)), (2, .int (nI m))] [] σ2 _
    repeat refine zA_step rfl rfl ?_
    refine zA_call rfl rfl (mo_isStone hM2 ws6 (fun s' hs' e => ?_) (fun h => nu_abs2 hs (by omega) h))
    repeat refine zA_step rfl rfl ?_
    refine zA_call rfl rfl (mo_inI 0 5 (by decide) (by decide) (fun z1 z2 => ?_) (fun z => absurd ⟨by rw [nu_I (by omega)]; omega, by rw [nu_I (by omega)]; omega⟩ z))
    repeat refine zA_step rfl rfl ?_
    refine zA_call rfl rfl (mo_whoSwears (Or.inl rfl) hM2 hW (by omega) hs ?_)
    exact K
  have hm2 := hO.2.1
  have fin := hR.kp (hk2.up (a := 70) (j := 0) (v := 0) rfl)
  have lay : ∀ (Q : Option Value → zSo → Prop), 2 ≤ m → (∀ (σ' : zSo) S, zFr [79] (zup σ2 70 0 0) σ' → SD σ' S → S.Pairwise (fun a b => a ≤ b) → S.Perm ((vL p s).map (fun q => q.2)) → zA (d + 20) 156 61 [(0, .ref 70), (1, .int (nI s)), (2, .int (nI m)), (3, .int (nI (bn (swb p s) (pw p))))] [.int (nI (vL p s).length)] σ' Q) → zC (d + 20) 156 [.ref 70, .int (nI s), .int (nI m)] σ2 Q := by
    intro Q h2 K
    refine tomod _ ?_
    repeat refine zA_step rfl rfl ?_
    refine zA_t (by simp (disch := omega) only [nu_lt, nu_le, nu_eq, nu_cmp_lt, nu_cmp_gt, nu_cmp_ge, nu_cmp_le, nu_wide, Int32.toInt_add, Int32.toInt_sub, Int32.toInt_mul, nu_I, Nat.reducePow, nu_bm, Int32.reduceToInt, Int64.reduceToInt]; omega) ?_
    repeat refine zA_step rfl rfl ?_
    refine zA_call rfl rfl (mo_laySaid (msk := 0) hM2 hW (by omega) hs (by omega) (fun σ' S a1 a2 a3 a4 => ?_))
    rw [fL_0] at a4
    have e : S.length = (vL p s).length := by rw [a4.length_eq, List.length_map]; rfl
    rw [e]
    exact K σ' S a1 a2 a3 a4
  have zz : ∀ (σ' : zSo), zFr [79] (zup σ2 70 0 0) σ' → R σ' ∧ ∀ k, 1000 ≤ k → σ' k = σ k := fun σ' h => hR.kp ((hk2.up (a := 70) (j := 0) (v := 0) rfl).fr h (by
    intro a ha j
    rw [List.mem_singleton.mp ha]; rfl))
  repeat refine zA_step rfl rfl ?_
  rcases (show m = 0 ∨ m = 1 ∨ 2 ≤ m by omega) with rfl | rfl | h2
  · repeat refine zA_step rfl rfl ?_
    rw [hm2]
    refine zA_ret rfl ⟨_, rfl, tomod _ ?_⟩
    repeat refine zA_step rfl rfl ?_
    refine zA_call rfl rfl (mo_many hW rfl ?_)
    repeat refine zA_step rfl rfl ?_
    exact zA_ret rfl ⟨rfl, fin⟩
  · repeat refine zA_step rfl rfl ?_
    refine zA_call rfl rfl (cl_swearersTo (Or.inl rfl) hC2 hW (by omega) hs ?_)
    refine zA_ret rfl ⟨_, rfl, tomod _ ?_⟩
    repeat refine zA_step rfl rfl ?_
    exact zA_ret rfl ⟨rfl, fin⟩
  refine zA_f (by simp (disch := omega) only [nu_lt, nu_le, nu_eq, nu_cmp_lt, nu_cmp_gt, nu_cmp_ge, nu_cmp_le, nu_wide, Int32.toInt_add, Int32.toInt_sub, Int32.toInt_mul, nu_I, Nat.reducePow, nu_bm, Int32.reduceToInt, Int64.reduceToInt]; omega) ?_
  repeat refine zA_step rfl rfl ?_
  refine zA_f (by simp (disch := omega) only [nu_lt, nu_le, nu_eq, nu_cmp_lt, nu_cmp_gt, nu_cmp_ge, nu_cmp_le, nu_wide, Int32.toInt_add, Int32.toInt_sub, Int32.toInt_mul, nu_I, Nat.reducePow, nu_bm, Int32.reduceToInt, Int64.reduceToInt]; omega) ?_
  repeat refine zA_step rfl rfl ?_
  rw [hm2]
  by_cases h0 : (vL p s).length = 0
  · rw [h0] at lay ⊢
    repeat refine zA_step rfl rfl ?_
    refine zA_ret rfl ⟨_, rfl, lay _ h2 (fun σ' S a1 a2 a3 a4 => ?_)⟩
    repeat refine zA_step rfl rfl ?_
    exact zA_ret rfl ⟨rfl, zz σ' a1⟩
  refine zA_f (by simp (disch := omega) only [nu_lt, nu_le, nu_eq, nu_cmp_lt, nu_cmp_gt, nu_cmp_ge, nu_cmp_le, nu_wide, Int32.toInt_add, Int32.toInt_sub, Int32.toInt_mul, nu_I, Nat.reducePow, nu_bm, Int32.reduceToInt, Int64.reduceToInt]; omega) ?_
  have lay2 : ∀ (Q : Option Value → zSo → Prop), (∀ (σ' : zSo) S q, zFr [79] (zup σ2 70 0 0) σ' → SD σ' S → S.Pairwise (fun a b => a ≤ b) → S.Perm ((vL p s).map (fun q => q.2)) → Old p (vL p s) q → zA (d + 20) 156 143 [(0, .ref 70), (1, .int (nI s)), (2, .int (nI m)), (3, .int (nI (bn (swb p s) (pw p)))), (4, .int (nI (vL p s).length)), (5, .int (nI q.1)), (6, .int (nI (pw p)))] [] σ' Q) → zC (d + 20) 156 [.ref 70, .int (nI s), .int (nI m)] σ2 Q := by
    intro Q K
    refine lay _ h2 (fun σ' S a1 a2 a3 a4 => ?_)
    repeat refine zA_step rfl rfl ?_
    refine zA_f (by simp (disch := omega) only [nu_lt, nu_le, nu_eq, nu_cmp_lt, nu_cmp_gt, nu_cmp_ge, nu_cmp_le, nu_wide, Int32.toInt_add, Int32.toInt_sub, Int32.toInt_mul, nu_I, Nat.reducePow, nu_bm, Int32.reduceToInt, Int64.reduceToInt]; omega) ?_
    repeat refine zA_step rfl rfl ?_
    have hM3 : PM (σ' 74) p := by rw [a1 _ (by decide)]; exact hM2
    exact mo_old_lp hM3 hW (by omega) hs h0 m (fun q hq => K σ' S q a1 a2 a3 a4 hq)
  repeat refine zA_step rfl rfl ?_
  rcases (show m = 2 ∨ m = 3 ∨ m = 4 ∨ m = 5 by omega) with rfl | rfl | rfl | rfl
  · repeat refine zA_step rfl rfl ?_
    refine zA_call rfl rfl (cl_least hO h0 (fun y1 b1 b2 => ?_))
    refine zA_ret rfl ⟨_, rfl, lay2 _ (fun σ' S q a1 a2 a3 a4 a5 => ?_)⟩
    obtain ⟨v, hv⟩ := tk_get (show 0 < S.length by rw [a4.length_eq, List.length_map]; omega)
    repeat refine zA_step rfl rfl ?_
    simp only [nu_c0, a2 0 v hv]
    refine zA_ret rfl ⟨?_, zz σ' a1⟩
    obtain ⟨q1, c1, c2⟩ := b1
    obtain ⟨q2, d1, d2⟩ := List.mem_map.mp (a4.mem_iff.mp (List.mem_of_getElem? hv))
    have e1 := b2 q2 d1
    obtain ⟨i, hi⟩ := List.getElem?_of_mem (a4.mem_iff.mpr (List.mem_map.mpr ⟨q1, c1, rfl⟩))
    have e2 := srt_lt a3 hv (q1.2 + 1)
    have e3 := srt_lt a3 hi (q1.2 + 1)
    rw [show v = y1 by omega]
  · repeat refine zA_step rfl rfl ?_
    refine zA_call rfl rfl (cl_greatest hO h0 (fun y1 b1 b2 => ?_))
    refine zA_ret rfl ⟨_, rfl, lay2 _ (fun σ' S q a1 a2 a3 a4 a5 => ?_)⟩
    have hSl : S.length = (vL p s).length := by rw [a4.length_eq, List.length_map]
    obtain ⟨v, hv⟩ := tk_get (show (vL p s).length - 1 < S.length by omega)
    repeat refine zA_step rfl rfl ?_
    refine zA_ld (j := (vL p s).length - 1) rfl (by rw [nu_eq]; simp (disch := omega) only [Int32.toInt_add, Int32.toInt_sub, Int32.toInt_mul, nu_I, Nat.reducePow, nu_bm, Int32.reduceToInt, Int64.reduceToInt]; omega) (by omega) (by decide) (a2 _ v hv) ?_
    repeat refine zA_step rfl rfl ?_
    refine zA_ret rfl ⟨?_, zz σ' a1⟩
    obtain ⟨q1, c1, c2⟩ := b1
    obtain ⟨q2, d1, d2⟩ := List.mem_map.mp (a4.mem_iff.mp (List.mem_of_getElem? hv))
    have e1 := b2 q2 d1
    obtain ⟨i, hi⟩ := List.getElem?_of_mem (a4.mem_iff.mpr (List.mem_map.mpr ⟨q1, c1, rfl⟩))
    have hil : i < S.length := by
      rcases Nat.lt_or_ge i S.length with h | h
      · exact h
      · rw [List.getElem?_eq_none h] at hi; cases hi
    have e2 := srt_lt a3 hv (v + 1)
    have e3 := srt_lt a3 hi (v + 1)
    rw [show v = y1 by omega]
  · repeat refine zA_step rfl rfl ?_
    have cr : ∀ v (S : List Nat), S.Pairwise (fun a b => a ≤ b) → S.Perm ((vL p s).map (fun q => q.2)) → S[(vL p s).length / 2]? = some v → lts (vL p s) v ≤ (vL p s).length / 2 ∧ (vL p s).length / 2 < lts (vL p s) (v + 1) := by
      intro v S a3 a4 hv
      have e1 := srt_lt a3 hv v
      have e2 := srt_lt a3 hv (v + 1)
      rw [lts_srt a4] at e1 e2
      omega
    refine zA_call rfl rfl (cl_middle hO (mid_ex (vL_99 hW hs) h0) (fun y1 b1 b2 => ?_))
    refine zA_ret rfl ⟨_, rfl, lay2 _ (fun σ' S q a1 a2 a3 a4 a5 => ?_)⟩
    have hSl : S.length = (vL p s).length := by rw [a4.length_eq, List.length_map]
    obtain ⟨v, hv⟩ := tk_get (show (vL p s).length / 2 < S.length by omega)
    repeat refine zA_step rfl rfl ?_
    refine zA_ld (j := (vL p s).length / 2) rfl (by rw [show (2 : Int32) = nI 2 from rfl, nu_tdiv (by omega) (by omega) (by omega)]) (by omega) (by decide) (a2 _ v hv) ?_
    repeat refine zA_step rfl rfl ?_
    refine zA_ret rfl ⟨?_, zz σ' a1⟩
    obtain ⟨c1, c2⟩ := cr v S a3 a4 hv
    rw [mid_uniq c1 c2 b1 b2]
  · repeat refine zA_step rfl rfl ?_
    have hmw : ∀ q ∈ vL p s, q.1 < pw p ∧ sayO p q.1 s = some q.2 := fun q hq => vK_mem hq
    refine zA_call rfl rfl (cl_ofOldest hO hC2 hW (by omega) h0 (vK_ord p s _) (fun q hq => (hmw q hq).1) (fun q1 b1 => ?_))
    refine zA_ret rfl ⟨_, rfl, lay2 _ (fun σ' S q a1 a2 a3 a4 a5 => ?_)⟩
    have hM3 : PM (σ' 74) p := by rw [a1 _ (by decide)]; exact hM2
    have e := b1.uniq a5
    have m1 := hmw _ b1.1
    have m2 := hmw _ a5.1
    repeat refine zA_step rfl rfl ?_
    refine zA_call rfl rfl (mo_says (Or.inl rfl) hM3 hW (by omega) m2.1 hs ?_)
    refine zA_ret rfl ⟨?_, zz σ' a1⟩
    rw [← e, m1.2]
    rfl
