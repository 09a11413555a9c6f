/-! what is sworn to a stone: (witness, yard), in the order of witnesses -/
def vK (p : paT) (s : Nat) : Nat → List (Nat × Nat)
  | 0 => []
  | k + 1 => vK p s k ++ (match sayO p k s with | none => [] | some y => [(k, y)])
def vL (p : paT) (s : Nat) : List (Nat × Nat) := vK p s (pw p)
theorem vK_n {p : paT} {s k : Nat} (h : sayO p k s = none) : vK p s (k + 1) = vK p s k := by rw [vK, h]; simp
theorem vK_s {p : paT} {s k y : Nat} (h : sayO p k s = some y) : vK p s (k + 1) = vK p s k ++ [(k, y)] := by rw [vK, h]
theorem vK_mem {p : paT} {s : Nat} : ∀ {k : Nat} {q : Nat × Nat}, q ∈ vK p s k → q.1 < k ∧ sayO p q.1 s = some q.2
  | 0, q, h => by cases h
  | k + 1, q, h => by
    cases hs : sayO p k s with
    | none =>
      rw [vK_n hs] at h
      obtain ⟨h1, h2⟩ := vK_mem h
      exact ⟨by omega, h2⟩
    | some y =>
      rw [vK_s hs] at h
      rcases List.mem_append.mp h with h | h
      · obtain ⟨h1, h2⟩ := vK_mem h
        exact ⟨by omega, h2⟩
      · rw [List.mem_singleton.mp h]
        exact ⟨by show k < k + 1; omega, hs⟩
theorem vK_len (p : paT) (s : Nat) : ∀ k, (vK p s k).length = cn (swb p s) k
  | 0 => rfl
  | k + 1 => by
    have ih := vK_len p s k
    cases hs : sayO p k s with
    | none => rw [vK_n hs, cn, ih]; simp [swb, hs]
    | some y => rw [vK_s hs, cn, List.length_append, ih]; simp [swb, hs]
theorem vK_cnt (p : paT) (s y : Nat) : ∀ k, (vK p s k).countP (fun q => q.2 == y) = cn (fun w => decide (sayO p w s = some y)) k
  | 0 => rfl
  | k + 1 => by
    have ih := vK_cnt p s y k
    cases hs : sayO p k s with
    | none => rw [vK_n hs, cn, ih]; simp [hs]
    | some z => rw [vK_s hs, cn, List.countP_append, ih]; simp [hs, List.countP_cons]
def OS (σ : zSo) (L : List (Nat × Nat)) : Prop := L.length ≤ 6 ∧ σ 64 0 = nI L.length ∧ ∀ i q, L[i]? = some q → σ 65 i = nI q.1 ∧ σ 66 i = nI q.2 ∧ q.1 < 6 ∧ q.2 ≤ 99
theorem tk_succ {α : Type} {L : List α} {k : Nat} {q : α} (h : L[k]? = some q) : L.take (k + 1) = L.take k ++ [q] := by
  rw [List.take_add_one, h]
  rfl
theorem tk_get {α : Type} {L : List α} {k : Nat} (h : k < L.length) : ∃ q, L[k]? = some q := ⟨L[k], List.getElem?_eq_getElem h⟩
set_option maxHeartbeats 4000000 in
set_option maxRecDepth 100000 in
theorem cl_gather {d s Y : Nat} {σ : zSo} {Q : Option Value → zSo → Prop} {p : paT} (hP : PC σ 20 p) (hW : paW p Y) (hY : Y ≤ 2000) (hs : s < ps p)
    (hQ : ∀ σ', zFr [64, 65, 66] σ σ' → OS σ' (vL p s) → Q none σ') : zC (d + 3) 11 [.ref 64, .ref 20, .int (nI s)] σ Q := by
  have ww6 := hW.2.2.2.2.1
  have ws6 := hW.2.2.2.1
  have lp : ∀ n k, k + n = pw p → ∀ σk : zSo, zFr [64, 65, 66] σ σk → OS σk (vK p s k) → ∀ i : Int32, i = nI k → zA (d + 3) 11 7 [(0, .ref 64), (1, .ref 20), (2, .int (nI s)), (3, .int i)] [] σk Q := by
    intro n
    induction n with
    | zero =>
      intro k hk σk hF hO i ei
      subst ei
      have : k = pw p := by omega
      subst this
      refine zA_s0 rfl ?_
      repeat refine zA_step rfl rfl ?_
      rw [show σk 20 5 = nI (pw p) from by rw [hF _ (by decide)]; exact hP.2.2.1]
      refine zA_t (Int32.le_refl _) ?_
      repeat refine zA_step rfl rfl ?_
      exact zA_ret rfl (hQ σk hF hO)
    | succ n ih =>
      intro k hk σk hF hO i ei
      subst ei
      have hPk : PC σk 20 p := hP.fr hW (fun a c1 c2 => hF a (by simp only [List.mem_cons, List.not_mem_nil, or_false]; omega))
      obtain ⟨o1, o2, o3⟩ := id hO
      have hlen : (vK p s k).length ≤ k := by rw [vK_len]; exact cn_le _ _
      refine zA_s0 rfl ?_
      repeat refine zA_step rfl rfl ?_
      rw [show σk 20 5 = nI (pw p) from hPk.2.2.1]
      refine zA_f (by simp (disch := omega) only [nu_lt, nu_le, nu_eq, nu_cmp_lt, nu_cmp_gt, nu_cmp_ge, nu_cmp_le, nu_wide, Int32.toInt_add, Int32.toInt_sub, Int32.toInt_mul, nu_I, Nat.reducePow, nu_bm, Int32.reduceToInt, Int64.reduceToInt]; omega) ?_
      repeat refine zA_step rfl rfl ?_
      refine zA_call rfl rfl (cl_oath (Or.inl rfl) hPk hW hY (by omega) hs ?_)
      repeat refine zA_step rfl rfl ?_
      cases hsy : sayO p k s with
      | none =>
        repeat refine zA_step rfl rfl ?_
        refine zA_dr rfl rfl rfl ?_
        exact ih (k + 1) (by omega) σk hF (by rw [vK_n hsy]; exact hO) _ (nI_1 k)
      | some y =>
        have hy := sayO_le hW (by omega) hs hsy
        refine zA_f (nu_nI_NO (by omega)) ?_
        repeat refine zA_step rfl rfl ?_
        refine zA_sto (j := (vK p s k).length) rfl o2 (by omega) (by decide) ?_
        repeat refine zA_step rfl rfl ?_
        refine zA_sto (j := (vK p s k).length) rfl o2 (by omega) (by decide) ?_
        repeat refine zA_step rfl rfl ?_
        rw [show zup (zup σk 65 (vK p s k).length (nI k)) 66 (vK p s k).length (eO (some y)) 64 0 = nI (vK p s k).length from o2]
        refine zA_dr rfl rfl rfl ?_
        refine ih (k + 1) (by omega) _ (((hF.up (by simp)).up (by simp)).up (by simp)) ?_ _ (nI_1 k)
        rw [vK_s hsy]
        refine ⟨by rw [List.length_append]; simp; omega, ?_, fun i q hi => ?_⟩
        · rw [zup_k, List.length_append]
          simp [upd, nI_1]
        · by_cases e : i < (vK p s k).length
          · rw [List.getElem?_append_left e] at hi
            have hne : ¬ i = (vK p s k).length := by omega
            simp [zup, upd, hne]
            exact o3 i q hi
          · have hi2 : i = (vK p s k).length := by
              have := (List.getElem?_eq_some_iff.mp hi).1
              rw [List.length_append] at this
              simp at this
              omega
            subst hi2
            rw [List.getElem?_append_right (Nat.le_refl _)] at hi
            simp at hi
            subst hi
            simp [zup, upd, eO]
            omega
  show zA (d + 3) _ 0 [(0, .ref 64), (1, .ref 20), (2, .int (nI s))] [] σ Q
  repeat refine zA_step rfl rfl ?_
  exact lp (pw p) 0 (by omega) _ (zFr.rf.up (by simp)) ⟨by simp [vK], by simp [zup_k, upd, vK]; rfl, fun i q hi => by simp [vK] at hi⟩ 0 rfl
set_option maxHeartbeats 4000000 in
set_option maxRecDepth 100000 in
theorem cl_alike {d : Nat} {σ : zSo} {Q : Option Value → zSo → Prop} {L : List (Nat × Nat)} {x : Int32} (hO : OS σ L) (hQ : Q (some (.int (nI (L.countP (fun q => decide (nI q.2 = x)))))) σ) : zC d 17 [.ref 64, .int x] σ Q := by
  obtain ⟨o1, o2, o3⟩ := hO
  have lp : ∀ n k, k + n = L.length → ∀ c i : Int32, c = nI ((L.take k).countP (fun q => decide (nI q.2 = x))) → i = nI k → zA d 17 4 [(0, .ref 64), (1, .int x), (2, .int c), (3, .int i)] [] σ Q := by
    intro n
    induction n with
    | zero =>
      intro k hk c i ec ei
      subst ec ei
      have : k = L.length := by omega
      subst this
      refine zA_s0 rfl ?_
      repeat refine zA_step rfl rfl ?_
      rw [o2]
      refine zA_t (Int32.le_refl _) ?_
      repeat refine zA_step rfl rfl ?_
      rw [List.take_length]
      exact zA_ret rfl hQ
    | succ n ih =>
      intro k hk c i ec ei
      subst ec ei
      obtain ⟨q, hq⟩ := tk_get (show k < L.length by omega)
      obtain ⟨-, q2, -, -⟩ := o3 k q hq
      refine zA_s0 rfl ?_
      repeat refine zA_step rfl rfl ?_
      rw [o2]
      refine zA_f (by simp (disch := omega) only [nu_lt, nu_le, nu_eq, nu_cmp_lt, nu_cmp_gt, nu_cmp_ge, nu_cmp_le, nu_wide, Int32.toInt_add, Int32.toInt_sub, Int32.toInt_mul, nu_I, Nat.reducePow, nu_bm, Int32.reduceToInt, Int64.reduceToInt]; omega) ?_
      repeat refine zA_step rfl rfl ?_
      refine zA_ld (j := k) rfl rfl (by omega) (by decide) q2 ?_
      repeat refine zA_step rfl rfl ?_
      refine zA_c (fun h => ?_) (fun h => ?_)
      · repeat refine zA_step rfl rfl ?_
        refine ih (k + 1) (by omega) _ _ ?_ (nI_1 k)
        rw [tk_succ hq, List.countP_append]
        simp [h, nI_1]
      · repeat refine zA_step rfl rfl ?_
        refine ih (k + 1) (by omega) _ _ ?_ (nI_1 k)
        rw [tk_succ hq, List.countP_append]
        simp [h]
  show zA d _ 0 [(0, .ref 64), (1, .int x)] [] σ Q
  repeat refine zA_step rfl rfl ?_
  exact lp L.length 0 (by omega) 0 0 rfl rfl
theorem cnt_eq {L : List (Nat × Nat)} {y : Nat} (hL : ∀ q ∈ L, q.2 ≤ 99) (hy : y < 1000) : L.countP (fun q => decide (nI q.2 = nI y)) = L.countP (fun q => q.2 == y) := by
  apply List.countP_congr
  intro q hq
  have := hL q hq
  rw [decide_eq_true_iff, nI_eq (by omega) (by omega)]
  simp
theorem vL_99 {p : paT} {s Y : Nat} (hW : paW p Y) (hs : s < ps p) : ∀ q ∈ vL p s, q.2 ≤ 99 := fun q hq => by
  obtain ⟨h1, h2⟩ := vK_mem hq
  exact sayO_le hW h1 hs h2
theorem vL_len {p : paT} {s Y : Nat} (hW : paW p Y) : (vL p s).length ≤ 6 := by
  have := hW.2.2.2.2.1
  unfold vL
  rw [vK_len]
  exact Nat.le_trans (cn_le _ _) this
set_option maxHeartbeats 4000000 in
set_option maxRecDepth 100000 in
theorem mo_sayYard {d s y Y : Nat} {σ : zSo} {Q : Option Value → zSo → Prop} {p : paT} (hP : PM (σ 74) p) (hW : paW p Y) (hY : Y ≤ 2000) (hs : s < ps p) (hy : y < 1000) (hQ : Q (some (.int (nI ((vL p s).countP (fun q => q.2 == y))))) σ) : zC (d + 3) 157 [.ref 70, .int (nI s), .int (nI y)] σ Q := by
  have ww6 := hW.2.2.2.2.1
  have h3 := hP.2.2.1
  have lp : ∀ n k, k + n = pw p → ∀ c i : Int32, c = nI (cn (fun w => decide (sayO p w s = some y)) k) → i = nI k → zA (d + 3) 157 5 [(0, .ref 70), (1, .int (nI s)), (2, .int (nI y)), (3, .int c), (4, .int i)] [] σ Q := by
    intro n
    induction n with
    | zero =>
      intro k hk c i ec ei
      subst ec ei
      have : k = pw p := by omega
      subst this
      refine zA_s0 rfl ?_
      repeat refine zA_step rfl rfl ?_
      simp only [nu_c3, h3]
      refine zA_t (Int32.le_refl _) ?_
      repeat refine zA_step rfl rfl ?_
      rw [← vK_cnt]
      exact zA_ret rfl hQ
    | succ n ih =>
      intro k hk c i ec ei
      subst ec ei
      refine zA_s0 rfl ?_
      repeat refine zA_step rfl rfl ?_
      simp only [nu_c3, h3]
      refine zA_f (by simp (disch := omega) only [nu_lt, nu_le, nu_eq, nu_cmp_lt, nu_cmp_gt, nu_cmp_ge, nu_cmp_le, nu_wide, Int32.toInt_add, Int32.toInt_sub, Int32.toInt_mul, nu_I, Nat.reducePow, nu_bm, Int32.reduceToInt, Int64.reduceToInt]; omega) ?_
      repeat refine zA_step rfl rfl ?_
      refine zA_call rfl rfl (mo_says (Or.inl rfl) hP hW hY (by omega) hs ?_)
      repeat refine zA_step rfl rfl ?_
      by_cases h : sayO p k s = some y
      · rw [h]
        refine zA_t rfl ?_
        repeat refine zA_step rfl rfl ?_
        exact ih (k + 1) (by omega) _ _ (by rw [cn_t (by simp [h]), ← nI_1]) (nI_1 k)
      · refine zA_f (fun z => h ?_) ?_
        · cases hsy : sayO p k s with
          | none =>
            rw [hsy] at z
            exact absurd z.symm (nu_nI_NO (by omega))
          | some y' =>
            rw [hsy] at z
            have := sayO_le hW (by omega) hs hsy
            have z : nI y' = nI y := z
            rw [nI_eq (by omega) (by omega)] at z
            rw [z]
        · repeat refine zA_step rfl rfl ?_
          exact ih (k + 1) (by omega) _ _ (by rw [cn_f (by simp [h]), Int32.add_zero]) (nI_1 k)
  show zA (d + 3) _ 0 [(0, .ref 70), (1, .int (nI s)), (2, .int (nI y))] [] σ Q
  repeat refine zA_step rfl rfl ?_
  exact lp (pw p) 0 (by omega) 0 0 rfl rfl
set_option maxHeartbeats 4000000 in
set_option maxRecDepth 100000 in
theorem mo_many {d s Y : Nat} {σ : zSo} {Q : Option Value → zSo → Prop} {p : paT} {x : Nat} (hW : paW p Y) (hx : x = bn (swb p s) (pw p)) (hQ : Q (some (.int (nI (vL p s).length))) σ) : zC d 133 [.int (nI x)] σ Q := by
  have ww6 := hW.2.2.2.2.1
  refine mo_bits (by rw [hx]; exact bn_lt64 _ ww6) ?_
  rw [hx, pc6_bn _ ww6, ← vK_len]
  exact hQ
theorem zK_os {σ σ' : zSo} (h : zFr [64, 65, 66] σ σ') : zK σ σ' := zK.rf.fr h (by
  intro a ha j
  simp only [List.mem_cons, List.not_mem_nil, or_false] at ha
  rcases ha with rfl | rfl | rfl <;> rfl)
set_option maxHeartbeats 4000000 in
set_option maxRecDepth 100000 in
theorem pr_map {d : Nat} {σ : zSo} (x y : Int32) (hR : R σ) : zPair (d + 20) 82 170 [.int x, .int y] σ := by
  obtain ⟨-, -, -, -, ⟨p, ⟨hW, hC, hM, -, -⟩, -⟩, -⟩ := id hR
  have ws6 := hW.2.2.2.1
  have hk : zK σ (zup σ 70 0 0) := zK.rf.up rfl
  have hM' : PM (zup σ 70 0 0 74) p := hM
  have bad : ¬ ((0 ≤ x.toInt ∧ x.toInt < ps p) ∧ (0 ≤ y.toInt ∧ y.toInt ≤ 99)) → zC (d + 20) 170 [.ref 70, .int x, .int y] σ (fun r2 σ2 => r2 = some (.int (-1000001)) ∧ R σ2 ∧ ∀ k, 1000 ≤ k → σ2 k = σ k) := by
    intro hn
    show zA (d + 20) _ 0 [(0, .ref 70), (1, .int x), (2, .int y)] [] σ _
    repeat refine zA_step rfl rfl ?_
    refine zA_call rfl rfl (mo_isStone hM' ws6 (fun s hs e => ?_) (fun h => ?_))
    rotate_left
    · repeat refine zA_step rfl rfl ?_
      exact zA_ret rfl ⟨rfl, hR.kp hk⟩
    subst e
    repeat refine zA_step rfl rfl ?_
    refine zA_call rfl rfl (mo_inI 0 99 (by decide) (by decide) (fun z1 z2 => ?_) (fun z => ?_))
    · rw [nu_I (by omega)] at hn
      exact absurd ⟨⟨by omega, by omega⟩, ⟨z1, z2⟩⟩ hn
    · repeat refine zA_step rfl rfl ?_
      exact zA_ret rfl ⟨rfl, hR.kp hk⟩
  show zA (d + 20) _ 0 [(0, .ref 0), (1, .int x), (2, .int y)] [] σ _
  repeat refine zA_step rfl rfl ?_
  refine zA_call rfl rfl (cl_isStone hC ws6 (fun s hs e => ?_) (fun h => ?_))
  rotate_left
  · repeat refine zA_step rfl rfl ?_
    exact zA_ret rfl ⟨_, rfl, bad (fun z => h z.1)⟩
  subst e
  repeat refine zA_step rfl rfl ?_
  refine zA_call rfl rfl (cl_isYard (fun p1 p2 => ?_) (fun h => ?_))
  rotate_left
  · repeat refine zA_step rfl rfl ?_
    exact zA_ret rfl ⟨_, rfl, bad (fun z => h z.2)⟩
  obtain ⟨yd, hyd, e⟩ := nu_of (n := 100) (x := y) (by omega) (by omega)
  subst e
  repeat refine zA_step rfl rfl ?_
  refine zA_call rfl rfl (cl_gather hC hW (by omega) hs (fun σ2 hF hO => ?_))
  repeat refine zA_step rfl rfl ?_
  rw [hO.2.1]
  refine zA_call rfl rfl (cl_alike hO ?_)
  rw [cnt_eq (vL_99 hW hs) (by omega)]
  repeat refine zA_step rfl rfl ?_
  have hk2 := zK_os hF
  have hM2 : PM (zup σ2 70 0 0 74) p := by
    show PM (σ2 74) p
    rw [hF _ (by decide)]; exact hM
  refine zA_ret rfl ⟨_, rfl, ?_⟩
  show zA (d + 20) _ 0 [(0, .ref 70), (1, .int (nI s)), (2, .int (nI yd))] [] σ2 _
  repeat refine zA_step rfl rfl ?_
  refine zA_call rfl rfl (mo_isStone hM2 ws6 (fun s' hs' e => ?_) (fun h => nu_abs2 hs (by omega) h))
  repeat refine zA_step rfl rfl ?_
  refine zA_call rfl rfl (mo_inI 0 99 (by decide) (by decide) (fun z1 z2 => ?_) (fun z => absurd ⟨p1, p2⟩ z))
  repeat refine zA_step rfl rfl ?_
  refine zA_call rfl rfl (mo_whoSwears (Or.inl rfl) hM2 hW (by omega) hs ?_)
  refine zA_call rfl rfl (mo_many hW rfl ?_)
  repeat refine zA_step rfl rfl ?_
  refine zA_call rfl rfl (mo_sayYard hM2 hW (by omega) hs (by omega) ?_)
  repeat refine zA_step rfl rfl ?_
  exact zA_ret rfl ⟨rfl, hR.kp (hk2.up rfl)⟩
