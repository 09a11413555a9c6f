/-! the class keeps, and takes back -/
set_option maxHeartbeats 4000000 in
set_option maxRecDepth 100000 in
theorem cl_keepBumps {d nx s : Nat} {σ : zSo} {Q : Option Value → zSo → Prop} (hn : nx < 24) (hs : s < 6) (hx : σ 57 1 = nI nx)
    (hQ : ∀ σ', zFr [61, 62, 63] σ σ' → (∀ w, w < 6 → σ' 61 (6 * nx + w) = σ 26 (6 * w + s) ∧ σ' 62 (6 * nx + w) = σ 27 (6 * w + s) ∧ σ' 63 (6 * nx + w) = σ 28 (6 * w + s)) →
      (∀ x, (x < 6 * nx ∨ 6 * nx + 6 ≤ x) → σ' 61 x = σ 61 x ∧ σ' 62 x = σ 62 x ∧ σ' 63 x = σ 63 x) → Q none σ') : zC (d + 1) 4 [.ref 57, .int (nI s), .ref 20] σ Q := by
  have lp : ∀ m k, k + m = 6 → ∀ σk, zFr [61, 62, 63] σ σk → (∀ w, w < k → σk 61 (6 * nx + w) = σ 26 (6 * w + s) ∧ σk 62 (6 * nx + w) = σ 27 (6 * w + s) ∧ σk 63 (6 * nx + w) = σ 28 (6 * w + s)) →
      (∀ x, (x < 6 * nx ∨ 6 * nx + 6 ≤ x) → σk 61 x = σ 61 x ∧ σk 62 x = σ 62 x ∧ σk 63 x = σ 63 x) → ∀ i : Int32, i = nI k → zA (d + 1) 4 2 [(0, .ref 57), (1, .int (nI s)), (2, .ref 20), (3, .int i)] [] σk Q := by
    intro m
    induction m with
    | zero =>
      intro k hk σk hF h1 h2 i ei
      subst ei
      have : k = 6 := by omega
      subst this
      refine zA_s0 rfl ?_
      repeat refine zA_step rfl rfl ?_
      exact zA_ret rfl (hQ σk hF h1 h2)
    | succ m ih =>
      intro k hk σk hF h1 h2 i ei
      subst ei
      have hx' : σk 57 1 = nI nx := by rw [hF 57 (by decide)]; exact hx
      refine zA_s0 rfl ?_
      repeat refine zA_step rfl rfl ?_
      refine zA_f (by simp (disch := omega) only [nu_lt, nu_le, nu_eq, nu_cmp_lt, nu_cmp_gt, nu_cmp_ge, nu_cmp_le, nu_wide, Int32.toInt_add, Int32.toInt_sub, Int32.toInt_mul, nu_I, Nat.reducePow, nu_bm, Int32.reduceToInt, Int64.reduceToInt]; omega) ?_
      repeat refine zA_step rfl rfl ?_
      refine zA_call rfl rfl (cl_placeOf (by omega) hs ?_)
      repeat refine zA_step rfl rfl ?_
      rw [hx']
      refine zA_ld (j := 6 * k + s) rfl rfl (by omega) (by decide) (v := σ 26 (6 * k + s)) (by rw [hF 26 (by decide)]) ?_
      refine zA_sto (j := 6 * nx + k) rfl (by rw [nu_eq]; simp (disch := omega) only [Int32.toInt_add, Int32.toInt_sub, Int32.toInt_mul, nu_I, Nat.reducePow, nu_bm, Int32.reduceToInt, Int64.reduceToInt]; omega) (by omega) (by decide) ?_
      repeat refine zA_step rfl rfl ?_
      rw [show zup σk 61 (6 * nx + k) (σ 26 (6 * k + s)) 57 1 = nI nx from hx']
      refine zA_ld (j := 6 * k + s) rfl rfl (by omega) (by decide) (v := σ 27 (6 * k + s)) (by rw [zup_o _ _ _ (by decide), hF 27 (by decide)]) ?_
      refine zA_sto (j := 6 * nx + k) rfl (by rw [nu_eq]; simp (disch := omega) only [Int32.toInt_add, Int32.toInt_sub, Int32.toInt_mul, nu_I, Nat.reducePow, nu_bm, Int32.reduceToInt, Int64.reduceToInt]; omega) (by omega) (by decide) ?_
      repeat refine zA_step rfl rfl ?_
      rw [show zup (zup σk 61 (6 * nx + k) (σ 26 (6 * k + s))) 62 (6 * nx + k) (σ 27 (6 * k + s)) 57 1 = nI nx from hx']
      refine zA_ld (j := 6 * k + s) rfl rfl (by omega) (by decide) (v := σ 28 (6 * k + s)) (by rw [zup_o _ _ _ (by decide), zup_o _ _ _ (by decide), hF 28 (by decide)]) ?_
      refine zA_sto (j := 6 * nx + k) rfl (by rw [nu_eq]; simp (disch := omega) only [Int32.toInt_add, Int32.toInt_sub, Int32.toInt_mul, nu_I, Nat.reducePow, nu_bm, Int32.reduceToInt, Int64.reduceToInt]; omega) (by omega) (by decide) ?_
      repeat refine zA_step rfl rfl ?_
      refine zA_dr rfl rfl rfl ?_
      refine ih (k + 1) (by omega) _ (((hF.up (by simp)).up (by simp)).up (by simp)) (fun w hw => ?_) (fun x hx => ?_) _ (nI_1 k)
      · by_cases e : w = k
        · subst e
          simp [zup, upd]
        · obtain ⟨a1, a2, a3⟩ := h1 w (by omega)
          simp [zup, upd, e, a1, a2, a3]
      · obtain ⟨a1, a2, a3⟩ := h2 x hx
        have : ¬ x = 6 * nx + k := by omega
        simp [zup, upd, this, a1, a2, a3]
  show zA (d + 1) _ 0 [(0, .ref 57), (1, .int (nI s)), (2, .ref 20)] [] σ Q
  repeat refine zA_step rfl rfl ?_
  exact lp 6 0 (by omega) σ zFr.rf (fun w hw => by omega) (fun x _ => ⟨rfl, rfl, rfl⟩) 0 rfl
set_option maxHeartbeats 4000000 in
set_option maxRecDepth 100000 in
theorem cl_keep {d nx sz sort one : Nat} {σ : zSo} {Q : Option Value → zSo → Prop} (hn : nx < 24) (hz : sz ≤ 24) (hso : sort < 4) (ho : one < 6) (hx : σ 57 1 = nI nx) (hsz : σ 57 0 = nI sz)
    (hQ : ∀ σ', zFr [57, 58, 59, 60, 61, 62, 63] σ σ' → σ' 57 0 = nI (min 24 (sz + 1)) → σ' 57 1 = nI (if nx + 1 < 24 then nx + 1 else 0) → σ' 58 nx = nI sort → σ' 59 nx = nI one → (sort = 1 → σ' 60 nx = σ 21 one) → (sort = 2 → σ' 60 nx = σ 25 one) →
      (sort = 0 → ∀ w, w < 6 → σ' 61 (6 * nx + w) = σ 26 (6 * w + one) ∧ σ' 62 (6 * nx + w) = σ 27 (6 * w + one) ∧ σ' 63 (6 * nx + w) = σ 28 (6 * w + one)) →
      (∀ e, e < 24 → e ≠ nx → σ' 58 e = σ 58 e ∧ σ' 59 e = σ 59 e ∧ σ' 60 e = σ 60 e ∧ ∀ w, w < 6 → σ' 61 (6 * e + w) = σ 61 (6 * e + w) ∧ σ' 62 (6 * e + w) = σ 62 (6 * e + w) ∧ σ' 63 (6 * e + w) = σ 63 (6 * e + w)) → Q none σ') : zC (d + 2) 2 [.ref 57, .int (nI sort), .int (nI one), .ref 20] σ Q := by
  -- the end: next and size
  have fin : ∀ σ1, zFr [58, 59, 60, 61, 62, 63] σ σ1 → σ1 58 nx = nI sort → σ1 59 nx = nI one → (sort = 1 → σ1 60 nx = σ 21 one) → (sort = 2 → σ1 60 nx = σ 25 one) →
      (sort = 0 → ∀ w, w < 6 → σ1 61 (6 * nx + w) = σ 26 (6 * w + one) ∧ σ1 62 (6 * nx + w) = σ 27 (6 * w + one) ∧ σ1 63 (6 * nx + w) = σ 28 (6 * w + one)) →
      (∀ e, e < 24 → e ≠ nx → σ1 58 e = σ 58 e ∧ σ1 59 e = σ 59 e ∧ σ1 60 e = σ 60 e ∧ ∀ w, w < 6 → σ1 61 (6 * e + w) = σ 61 (6 * e + w) ∧ σ1 62 (6 * e + w) = σ 62 (6 * e + w) ∧ σ1 63 (6 * e + w) = σ 63 (6 * e + w)) →
      zA (d + 2) 2 76 [(0, .ref 57), (1, .int (nI sort)), (2, .int (nI one)), (3, .ref 20)] [] σ1 Q := by
    intro σ1 hF e1 e2 e3 e4 e5 e6
    have hx' : σ1 57 1 = nI nx := by rw [hF 57 (by decide)]; exact hx
    have hz' : σ1 57 0 = nI sz := by rw [hF 57 (by decide)]; exact hsz
    have sizes : (if nI sz + 1 < 24 then nI sz + 1 else 24) = nI (min 24 (sz + 1)) := by
      rw [nI_1]
      by_cases h : sz + 1 < 24
      · rw [if_pos (by simp (disch := omega) only [nu_lt, nu_le, nu_eq, nu_cmp_lt, nu_cmp_gt, nu_cmp_ge, nu_cmp_le, nu_wide, Int32.toInt_add, Int32.toInt_sub, Int32.toInt_mul, nu_I, Nat.reducePow, nu_bm, Int32.reduceToInt, Int64.reduceToInt]; omega), Nat.min_eq_right (by omega)]
      · rw [if_neg (by simp (disch := omega) only [nu_lt, nu_le, nu_eq, nu_cmp_lt, nu_cmp_gt, nu_cmp_ge, nu_cmp_le, nu_wide, Int32.toInt_add, Int32.toInt_sub, Int32.toInt_mul, nu_I, Nat.reducePow, nu_bm, Int32.reduceToInt, Int64.reduceToInt]; omega), Nat.min_eq_left (by omega)]
        rfl
    have last : ∀ v : Int32, v = nI (if nx + 1 < 24 then nx + 1 else 0) → zA (d + 2) 2 116 [(0, .ref 57), (1, .int (nI sort)), (2, .int (nI one)), (3, .ref 20)] [] (zup (zup σ1 57 1 v) 57 0 (if σ1 57 0 + 1 < 24 then σ1 57 0 + 1 else 24)) Q := by
      intro v hv
      rw [hz', sizes]
      refine zA_ret rfl (hQ _ (((hF.sub (fun k hk => by simp only [List.mem_cons, List.not_mem_nil, or_false] at hk ⊢; omega)).up (by simp)).up (by simp)) ?_ ?_ ?_ ?_ ?_ ?_ ?_ ?_)
      · rw [zup_k]; simp [upd]
      · rw [zup_k, zup_k]; simp [upd, hv]
      · exact e1
      · exact e2
      · exact e3
      · exact e4
      · exact e5
      · exact e6
    repeat refine zA_step rfl rfl ?_
    rw [hx', nI_1]
    by_cases h : nx + 1 < 24
    · refine zA_f (by simp (disch := omega) only [nu_lt, nu_le, nu_eq, nu_cmp_lt, nu_cmp_gt, nu_cmp_ge, nu_cmp_le, nu_wide, Int32.toInt_add, Int32.toInt_sub, Int32.toInt_mul, nu_I, Nat.reducePow, nu_bm, Int32.reduceToInt, Int64.reduceToInt]; omega) ?_
      repeat refine zA_step rfl rfl ?_
      exact last _ (by rw [hx', nI_1, if_pos h])
    · refine zA_t (by simp (disch := omega) only [nu_lt, nu_le, nu_eq, nu_cmp_lt, nu_cmp_gt, nu_cmp_ge, nu_cmp_le, nu_wide, Int32.toInt_add, Int32.toInt_sub, Int32.toInt_mul, nu_I, Nat.reducePow, nu_bm, Int32.reduceToInt, Int64.reduceToInt]; omega) ?_
      repeat refine zA_step rfl rfl ?_
      exact last _ (by rw [if_neg h]; rfl)
  show zA (d + 2) _ 0 [(0, .ref 57), (1, .int (nI sort)), (2, .int (nI one)), (3, .ref 20)] [] σ Q
  repeat refine zA_step rfl rfl ?_
  refine zA_sto (j := nx) rfl hx (by omega) (by decide) ?_
  repeat refine zA_step rfl rfl ?_
  refine zA_sto (j := nx) rfl hx (by omega) (by decide) ?_
  have base : zFr [58, 59, 60, 61, 62, 63] σ (zup (zup σ 58 nx (nI sort)) 59 nx (nI one)) := (zFr.rf.up (by simp)).up (by simp)
  rcases (show sort = 0 ∨ sort = 1 ∨ sort = 2 ∨ sort = 3 by omega) with rfl | rfl | rfl | rfl
  · repeat refine zA_step rfl rfl ?_
    refine zA_call rfl rfl (cl_keepBumps hn ho hx (fun σ' hF a1 a2 => ?_))
    refine fin σ' (base.tr (hF.sub (fun k hk => by simp only [List.mem_cons, List.not_mem_nil, or_false] at hk ⊢; omega))) ?_ ?_ (fun z => by omega) (fun z => by omega) (fun _ w hw => ?_) (fun e he hne => ⟨?_, ?_, ?_, fun w hw => ?_⟩)
    · rw [hF 58 (by decide)]; simp [zup, upd]
    · rw [hF 59 (by decide)]; simp [zup, upd]
    · exact a1 w hw
    · rw [hF 58 (by decide)]; simp [zup, upd, hne]
    · rw [hF 59 (by decide)]; simp [zup, upd, hne]
    · rw [hF 60 (by decide)]; simp [zup]
    · exact a2 _ (by omega)
  · repeat refine zA_step rfl rfl ?_
    refine zA_ld (j := one) rfl rfl (by omega) (by decide) rfl ?_
    refine zA_sto (j := nx) rfl hx (by omega) (by decide) ?_
    refine zA_s0 rfl ?_
    refine fin _ (base.up (by simp)) (by simp [zup, upd]) (by simp [zup, upd]) (fun _ => by simp [zup, upd]) (fun z => by omega) (fun z => by omega) (fun e he hne => ⟨by simp [zup, upd, hne], by simp [zup, upd, hne], by simp [zup, upd, hne], fun w hw => by simp [zup]⟩)
  · repeat refine zA_step rfl rfl ?_
    refine zA_ld (j := one) rfl rfl (by omega) (by decide) rfl ?_
    refine zA_sto (j := nx) rfl hx (by omega) (by decide) ?_
    refine zA_s0 rfl ?_
    refine fin _ (base.up (by simp)) (by simp [zup, upd]) (by simp [zup, upd]) (fun z => by omega) (fun _ => by simp [zup, upd]) (fun z => by omega) (fun e he hne => ⟨by simp [zup, upd, hne], by simp [zup, upd, hne], by simp [zup, upd, hne], fun w hw => by simp [zup]⟩)
  · iterate 8 refine zA_s0 rfl ?_
    refine fin _ base (by simp [zup, upd]) (by simp [zup, upd]) (fun z => by omega) (fun z => by omega) (fun z => by omega) (fun e he hne => ⟨by simp [zup, upd, hne], by simp [zup, upd, hne], by simp [zup], fun w hw => by simp [zup]⟩)
