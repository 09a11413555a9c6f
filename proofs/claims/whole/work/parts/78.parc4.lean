/-! the text of a parish: the class, the whole of it -/
abbrev pT : Type := Nat × Nat × List Nat × List (Nat × Nat × Nat)
def parR (b : Nat → Nat) (n : Nat) : Sum (Nat × Nat) pT := sb (lawR b n) fun v => sb (stR b n 7 v.2.2 []) fun u => sb (wiR b n 7 u.1 []) fun ks => .inr (v.1, v.2.1, u.2, ks)
set_option maxHeartbeats 4000000 in
set_option maxRecDepth 100000 in
theorem cl_clear {d : Nat} {σ : zSo} {Q : Option Value → zSo → Prop} (hQ : ∀ σ' : zSo, zFr tC σ σ' → TP σ' 1 1 [] [] → Q none σ') : zC d 26 [.ref 29] σ Q := by
  let Z (σ1 : zSo) : Prop := zFr tC σ σ1 ∧ σ1 29 1 = 1 ∧ σ1 29 2 = 1 ∧ σ1 29 3 = 0 ∧ σ1 29 4 = 0 ∧ σ1 29 5 = 0
  have lp2 : ∀ m k, k + m = 36 → ∀ σ1 : zSo, Z σ1 → (∀ j, j < 6 → σ1 34 j = 0) → (∀ j, j < k → σ1 36 j = 0) → ∀ i : Int32, i = nI k → zA d 26 53 [(0, .ref 29), (1, .int i)] [] σ1 Q := by
    intro m
    induction m with
    | zero =>
      intro k hk σ1 hZ hb hp i ei
      subst ei
      have : k = 36 := by omega
      subst this
      obtain ⟨z1, z2, z3, z4, z5, z6⟩ := hZ
      refine zA_s0 rfl ?_
      repeat refine zA_step rfl rfl ?_
      exact zA_ret rfl (hQ σ1 z1 ⟨⟨z2, z3, z4, z5, z6⟩, fun s y h => by simp at h, fun w q h => by simp at h, hb, hp⟩)
    | succ m ih =>
      intro k hk σ1 hZ hb hp i ei
      subst ei
      refine zA_s0 rfl ?_
      repeat refine zA_step rfl rfl ?_
      refine zA_f (by simp (disch := omega) only [nu_lt, nu_le, nu_eq, nu_cmp_lt, nu_cmp_gt, nu_cmp_ge, nu_cmp_le, nu_wide, Int32.toInt_add, Int32.toInt_sub, Int32.toInt_mul, nu_I, Nat.reducePow, nu_bm, Int32.reduceToInt, Int64.reduceToInt]; omega) ?_
      repeat refine zA_step rfl rfl ?_
      refine zA_sto (j := k) rfl rfl (by omega) (by decide) ?_
      repeat refine zA_step rfl rfl ?_
      obtain ⟨z1, z2, z3, z4, z5, z6⟩ := hZ
      refine ih (k + 1) (by omega) (zup σ1 36 k 0) ⟨z1.up (by simp), z2, z3, z4, z5, z6⟩ hb (fun j hj => ?_) _ (nI_1 k)
      show upd (σ1 36) k 0 j = 0
      simp only [upd]
      by_cases e : j = k
      · rw [if_pos e]
      · rw [if_neg e]; exact hp j (by omega)
  have lp1 : ∀ m k, k + m = 6 → ∀ σ1 : zSo, Z σ1 → (∀ j, j < k → σ1 34 j = 0) → ∀ i : Int32, i = nI k → zA d 26 32 [(0, .ref 29), (1, .int i)] [] σ1 Q := by
    intro m
    induction m with
    | zero =>
      intro k hk σ1 hZ hb i ei
      subst ei
      have : k = 6 := by omega
      subst this
      refine zA_s0 rfl ?_
      repeat refine zA_step rfl rfl ?_
      exact lp2 36 0 (by omega) σ1 hZ hb (fun j hj => by omega) 0 rfl
    | succ m ih =>
      intro k hk σ1 hZ hb i ei
      subst ei
      refine zA_s0 rfl ?_
      repeat refine zA_step rfl rfl ?_
      refine zA_f (by simp (disch := omega) only [nu_lt, nu_le, nu_eq, nu_cmp_lt, nu_cmp_gt, nu_cmp_ge, nu_cmp_le, nu_wide, Int32.toInt_add, Int32.toInt_sub, Int32.toInt_mul, nu_I, Nat.reducePow, nu_bm, Int32.reduceToInt, Int64.reduceToInt]; omega) ?_
      repeat refine zA_step rfl rfl ?_
      refine zA_sto (j := k) rfl rfl (by omega) (by decide) ?_
      repeat refine zA_step rfl rfl ?_
      obtain ⟨z1, z2, z3, z4, z5, z6⟩ := hZ
      refine ih (k + 1) (by omega) (zup σ1 34 k 0) ⟨z1.up (by simp), z2, z3, z4, z5, z6⟩ (fun j hj => ?_) _ (nI_1 k)
      show upd (σ1 34) k 0 j = 0
      simp only [upd]
      by_cases e : j = k
      · rw [if_pos e]
      · rw [if_neg e]; exact hb j (by omega)
  show zA d _ 0 [(0, .ref 29)] [] σ Q
  repeat refine zA_step rfl rfl ?_
  refine lp1 6 0 (by omega) _ ⟨(((((zFr.rf.up (by simp)).up (by simp)).up (by simp)).up (by simp)).up (by simp)).up (by simp), rfl, rfl, rfl, rfl, rfl⟩ (fun j hj => by omega) 0 rfl
set_option maxHeartbeats 4000000 in
set_option maxRecDepth 100000 in
theorem cl_readInto {d n : Nat} {b : Nat → Nat} {σ : zSo} {Q : Option Value → zSo → Prop} (hT : TC σ b n) (hP : TP σ 1 1 [] [])
    (ht : ∀ v, parR b n = .inr v → ∀ σ' : zSo, zFr (18 :: tC) σ σ' → σ' 18 3 = σ 18 3 → σ' 18 1 = 0 → TP σ' v.1 v.2.1 v.2.2.1 v.2.2.2 → σ' 29 0 = 1 → Q (some (.int 1)) σ')
    (hf : ∀ e, parR b n = .inl e → ∀ σ' : zSo, zFr (18 :: tC) σ σ' → σ' 18 3 = nI e.1 → σ' 18 4 = nI e.2 → σ' 18 1 = 0 → Q (some (.int 0)) σ') : zC (d + 6) 47 [.ref 18, .ref 29] σ Q := by
  have hS : CS σ (zup σ 18 2 0) 0 := ⟨zFr.rf.up (by simp), by simp [zup, upd]; rfl, fun i hi => by simp [zup, upd, hi]⟩
  have bad : ∀ (σ' : zSo) (e : Nat × Nat), parR b n = .inl e → CF σ σ' e.1 e.2 → zA (d + 6) 47 34 [(0, .ref 18), (1, .ref 29)] [.int 0] σ' Q := by
    intro σ' e he hF
    repeat refine zA_step rfl rfl ?_
    exact zA_ret rfl (hf e he _ ((hF.1.up (by simp)).up (by simp)) hF.2.1 hF.2.2.1 (by simp [zup, upd]))
  unfold parR at ht bad
  show zA (d + 6) _ 0 [(0, .ref 18), (1, .ref 29)] [] σ Q
  repeat refine zA_step rfl rfl ?_
  refine zA_call rfl rfl (cl_readLaw hT hS (hP.tp (zFr.rf.up (by simp))) (fun v hv σ1 hS1 hP1 => ?_) (fun e he σ1 hF1 => ?_))
  rotate_left
  · refine zA_s0 rfl ?_
    refine zA_s0 rfl ?_
    exact bad σ1 e (by rw [he]; rfl) hF1
  rw [hv] at ht bad
  have hok := lawR_ok hv
  repeat refine zA_step rfl rfl ?_
  refine zA_call rfl rfl ?_
  show zA _ _ 0 [(0, .ref 18), (1, .ref 29)] [] σ1 _
  repeat refine zA_step rfl rfl ?_
  refine cl_readStones (d := d + 2) hT 7 [] rfl (by simp) v.2.2 σ1 hok.2.2 hS1 hP1 (fun u hu σ2 hS2 hP2 => ?_) (fun e he σ2 hF2 => ?_) 0 rfl
  rotate_left
  · refine zA_s0 rfl ?_
    refine zA_s0 rfl ?_
    exact bad σ2 e (by show sb (stR b n 7 v.2.2 []) _ = _; rw [he]; rfl) hF2
  have hu1 := stR_ok hu (by simp) (by simp) hok.2.2 (by simp)
  repeat refine zA_step rfl rfl ?_
  refine zA_call rfl rfl ?_
  show zA _ _ 0 [(0, .ref 18), (1, .ref 29)] [] σ2 _
  repeat refine zA_step rfl rfl ?_
  refine cl_readWits (d := d + 1) hT 7 [] rfl (by simp) u.1 σ2 hu1.2.1 hS2 hP2 (fun ks hk σ3 j3 hS3 hP3 => ?_) (fun e he σ3 hF3 => ?_) 0 rfl
  rotate_left
  · refine zA_s0 rfl ?_
    refine zA_s0 rfl ?_
    exact bad σ3 e (by show sb (stR b n 7 v.2.2 []) _ = _; rw [hu]; show sb (wiR b n 7 u.1 []) _ = _; rw [he]; rfl) hF3
  repeat refine zA_step rfl rfl ?_
  repeat refine zA_step rfl rfl ?_
  refine zA_ret rfl (ht (v.1, v.2.1, u.2, ks) (by show sb (stR b n 7 v.2.2 []) _ = _; rw [hu]; show sb (wiR b n 7 u.1 []) _ = _; rw [hk]; rfl) _ ((hS3.1.up (by simp)).up (by simp)) (hS3.2.2 _ (by decide)) (by simp [zup, upd]) ?_ (by simp [zup, upd]))
  exact hP3
