/-! years; copies of a parish -/
def agK (p : paT) (n k : Nat) : paT := ((pl p, pd p, py p + n, ps p, pw p), p.2.1, p.2.2.1, (fun w => if w < k then pa p w + n else pa p w), p.2.2.2.2)
def agP (p : paT) (n : Nat) : paT := ((pl p, pd p, py p + n, ps p, pw p), p.2.1, p.2.2.1, (fun w => pa p w + n), p.2.2.2.2)
theorem agP_W {p : paT} {Y n : Nat} (hW : paW p Y) : paW (agP p n) (Y + n) := by
  obtain ⟨wl, wd, wy, ws6, ww6, wyd, www, wmm⟩ := hW
  refine ⟨wl, wd, ?_, ws6, ww6, wyd, fun w hw => ?_, fun w s hw hs q hq => ?_⟩
  · show py p + n ≤ Y + n
    omega
  · obtain ⟨a1, a2, a3, a4⟩ := www w hw
    refine ⟨a1, ?_, a3, a4⟩
    show py p + n ≤ pa p w + n ∧ pa p w + n ≤ 60 + (py p + n)
    omega
  · obtain ⟨a1, a2, a3⟩ := wmm w s hw hs q hq
    refine ⟨a1, a2, ?_⟩
    show q.2.2 ≤ py p + n
    omega
theorem PM.ag1 {v : Nat → Int32} {p : paT} {n : Nat} (h : PM v p) : PM (upd v 4 (nI (py p + n))) (agK p n 0) := by
  obtain ⟨h0, h2, h3, h4, h5, h6, h7⟩ := h
  have lo : ∀ j, j ≠ 4 → upd v 4 (nI (py p + n)) j = v j := fun j hj => by simp [upd, hj]
  refine ⟨fun z => ⟨?_, ?_⟩, ?_, ?_, ?_, fun s hs => ?_, fun w hw => ⟨?_, ?_, ?_, ?_⟩, fun w s hw hs j hj => ?_⟩
  · rw [lo _ (by omega)]; exact (h0 z).1
  · rw [lo _ (by omega)]; exact (h0 z).2
  · rw [lo _ (by omega)]; exact h2
  · rw [lo _ (by omega)]; exact h3
  · simp [upd]; rfl
  · rw [lo _ (by omega)]; exact h5 s hs
  · rw [lo _ (by omega)]; exact (h6 w hw).1
  · rw [lo _ (by omega)]
    show _ = nI (if w < 0 then pa p w + n else pa p w)
    rw [if_neg (by omega)]
    exact (h6 w hw).2.1
  · rw [lo _ (by omega)]; exact (h6 w hw).2.2.1
  · rw [lo _ (by omega)]; exact (h6 w hw).2.2.2
  · rw [lo _ (by omega)]; exact h7 w s hw hs j hj
theorem PM.ag2 {v : Nat → Int32} {p : paT} {n k : Nat} (h : PM v (agK p n k)) (hk : k < pw p) (hw6 : pw p ≤ 6) (hs6 : ps p ≤ 6) : PM (upd v (11 + 4 * k + 1) (nI (pa p k + n))) (agK p n (k + 1)) := by
  obtain ⟨h0, h2, h3, h4, h5, h6, h7⟩ := h
  have lo : ∀ j, j ≠ 11 + 4 * k + 1 → upd v (11 + 4 * k + 1) (nI (pa p k + n)) j = v j := fun j hj => by simp [upd, hj]
  refine ⟨fun z => ⟨?_, ?_⟩, ?_, ?_, ?_, fun s hs => ?_, fun w hw => ?_, fun w s hw hs j hj => ?_⟩
  · rw [lo _ (by omega)]; exact (h0 z).1
  · rw [lo _ (by omega)]; exact (h0 z).2
  · rw [lo _ (by omega)]; exact h2
  · rw [lo _ (by omega)]; exact h3
  · rw [lo _ (by omega)]; exact h4
  · have hs : s < ps p := hs
    rw [lo _ (by omega)]; exact h5 s hs
  · have hh := h6 w hw
    have hw : w < pw p := hw
    refine ⟨?_, ?_, ?_, ?_⟩
    · rw [lo _ (by omega)]; exact hh.1
    · by_cases e : w = k
      · subst e
        show _ = nI (if w < w + 1 then pa p w + n else pa p w)
        rw [if_pos (by omega)]
        simp [upd]
      · rw [lo _ (by omega)]
        have h9 := hh.2.1
        have h9 : v (11 + 4 * w + 1) = nI (if w < k then pa p w + n else pa p w) := h9
        rw [h9]
        show _ = nI (if w < k + 1 then pa p w + n else pa p w)
        by_cases e2 : w < k
        · rw [if_pos e2, if_pos (by omega)]
        · rw [if_neg e2, if_neg (by omega)]
    · rw [lo _ (by omega)]; exact hh.2.2.1
    · rw [lo _ (by omega)]; exact hh.2.2.2
  · have hw : w < pw p := hw
    have hs : s < ps p := hs
    rw [lo _ (by omega)]; exact h7 w s hw hs j hj
theorem PM.ag3 {v : Nat → Int32} {p : paT} {n : Nat} (h : PM v (agK p n (pw p))) : PM v (agP p n) := by
  obtain ⟨h0, h2, h3, h4, h5, h6, h7⟩ := h
  refine ⟨h0, h2, h3, h4, h5, fun w hw => ?_, h7⟩
  have hh := h6 w hw
  have hw : w < pw p := hw
  refine ⟨hh.1, ?_, hh.2.2⟩
  have h9 : v (11 + 4 * w + 1) = nI (if w < pw p then pa p w + n else pa p w) := hh.2.1
  rw [if_pos hw] at h9
  exact h9
set_option maxHeartbeats 4000000 in
set_option maxRecDepth 100000 in
theorem mo_age {d R n Y : Nat} {σ : zSo} {Q : Option Value → zSo → Prop} {p : paT} (hR : mR R) (hP : PM (σ R) p) (hW : paW p Y) (hY : Y ≤ 2000) (hn : n ≤ 100)
    (hQ : ∀ σ', zFr [R] σ σ' → PM (σ' R) (agP p n) → Q none σ') : zC d 142 [.ref R, .int (nI n)] σ Q := by
  have ww6 := hW.2.2.2.2.1
  have ws6 := hW.2.2.2.1
  have wy := hW.2.2.1
  have lp : ∀ m k, k + m = pw p → ∀ σk, zFr [R] σ σk → PM (σk R) (agK p n k) → ∀ (i : Int32), i = nI k → zA d 142 9 [(0, .ref R), (1, .int (nI n)), (2, .int i)] [] σk Q := by
    intro m
    induction m with
    | zero =>
      intro k hk σk hF hPk i ei
      subst ei
      have : k = pw p := by omega
      subst this
      have hlim : σk R 3 = nI (pw p) := hPk.2.2.1
      rcases hR with rfl | rfl | rfl
      all_goals
        refine zA_s0 rfl ?_
        repeat refine zA_step rfl rfl ?_
        simp only [nu_c3, hlim]
        refine zA_t (Int32.le_refl _) ?_
        repeat refine zA_step rfl rfl ?_
        exact zA_ret rfl (hQ σk hF hPk.ag3)
    | succ m ih =>
      intro k hk σk hF hPk i ei
      subst ei
      have hkw : k < pw p := by omega
      obtain ⟨-, ⟨wa1, wa2⟩, we, -⟩ := hW.2.2.2.2.2.2.1 k hkw
      have hlim : σk R 3 = nI (pw p) := hPk.2.2.1
      have hak : σk R (11 + 4 * k + 1) = nI (if k < k then pa p k + n else pa p k) := (hPk.2.2.2.2.2.1 k hkw).2.1
      rw [if_neg (by omega)] at hak
      rcases hR with rfl | rfl | rfl
      all_goals
        refine zA_s0 rfl ?_
        repeat refine zA_step rfl rfl ?_
        simp only [nu_c3, hlim]
        refine zA_f (by simp (disch := omega) only [nu_lt, nu_le, nu_eq, nu_cmp_lt, nu_cmp_gt, nu_cmp_ge, nu_cmp_le, nu_wide, Int32.toInt_add, Int32.toInt_sub, Int32.toInt_mul, nu_I, Nat.reducePow, nu_bm, Int32.reduceToInt, Int64.reduceToInt]; omega) ?_
        repeat refine zA_step rfl rfl ?_
        refine zA_ld (j := 11 + 4 * k + 1) rfl (by rw [nu_eq]; simp (disch := omega) only [Int32.toInt_add, Int32.toInt_sub, Int32.toInt_mul, nu_I, Nat.reducePow, nu_bm, Int32.reduceToInt, Int64.reduceToInt]; omega) (by omega) (by decide) hak ?_
        repeat refine zA_step rfl rfl ?_
        refine zA_sto (j := 11 + 4 * k + 1) rfl (by rw [nu_eq]; simp (disch := omega) only [Int32.toInt_add, Int32.toInt_sub, Int32.toInt_mul, nu_I, Nat.reducePow, nu_bm, Int32.reduceToInt, Int64.reduceToInt]; omega) (by omega) (by decide) ?_
        repeat refine zA_step rfl rfl ?_
        refine ih (k + 1) (by omega) _ (hF.up (by simp)) ?_ _ (nI_1 k)
        rw [zup_k, nI_add]
        exact hPk.ag2 hkw ww6 ws6
  show zA d _ 0 [(0, .ref R), (1, .int (nI n))] [] σ Q
  have h4 := hP.2.2.2.1
  rcases hR with rfl | rfl | rfl
  all_goals
    repeat refine zA_step rfl rfl ?_
    simp only [nu_c4]
    refine lp (pw p) 0 (by omega) _ (zFr.rf.up (by simp)) ?_ 0 rfl
    rw [zup_k, h4, nI_add]
    exact hP.ag1
set_option maxHeartbeats 4000000 in
set_option maxRecDepth 100000 in
theorem mo_layThen {d Y : Nat} {σ : zSo} {Q : Option Value → zSo → Prop} {p : paT} (hP : PM (σ 74) p) (hW : paW p Y)
    (hQ : ∀ σ', zFr [76] σ σ' → PM (σ' 76) p → Q none σ') : zC d 143 [.ref 70] σ Q := by
  have ww6 := hW.2.2.2.2.1
  have ws6 := hW.2.2.2.1
  have lp : ∀ m k, k + m = 143 → ∀ σk, zFr [76] σ σk → (∀ j, j < k → σk 76 j = σ 74 j) → ∀ (i : Int32), i = nI k → zA d 143 2 [(0, .ref 70), (1, .int i)] [] σk Q := by
    intro m
    induction m with
    | zero =>
      intro k hk σk hF hPk i ei
      subst ei
      have : k = 143 := by omega
      subst this
      refine zA_s0 rfl ?_
      repeat refine zA_step rfl rfl ?_
      exact zA_ret rfl (hQ σk hF (hP.cong ws6 ww6 hPk))
    | succ m ih =>
      intro k hk σk hF hPk i ei
      subst ei
      refine zA_s0 rfl ?_
      repeat refine zA_step rfl rfl ?_
      refine zA_f (by simp (disch := omega) only [nu_lt, nu_le, nu_eq, nu_cmp_lt, nu_cmp_gt, nu_cmp_ge, nu_cmp_le, nu_wide, Int32.toInt_add, Int32.toInt_sub, Int32.toInt_mul, nu_I, Nat.reducePow, nu_bm, Int32.reduceToInt, Int64.reduceToInt]; omega) ?_
      repeat refine zA_step rfl rfl ?_
      refine zA_ld (j := k) rfl rfl (by omega) (by decide) rfl ?_
      refine zA_sto (j := k) rfl rfl (by omega) (by decide) ?_
      repeat refine zA_step rfl rfl ?_
      refine ih (k + 1) (by omega) _ (hF.up (by simp)) (fun j hj => ?_) _ (nI_1 k)
      rw [zup_k]
      simp only [upd]
      by_cases e : j = k
      · rw [if_pos e, e, hF 74 (by decide)]
      · rw [if_neg e]; exact hPk j (by omega)
  show zA d _ 0 [(0, .ref 70)] [] σ Q
  repeat refine zA_step rfl rfl ?_
  exact lp 143 0 (by omega) σ zFr.rf (fun j hj => by omega) 0 rfl
/-- which parish of the class becomes which -/
def cPP (P O : Nat) : Prop := (P = 29 ∧ O = 20) ∨ (P = 20 ∧ O = 29) ∨ (P = 39 ∧ O = 20) ∨ (P = 48 ∧ O = 20) ∨ (P = 20 ∧ O = 39) ∨ (P = 20 ∧ O = 48)
set_option maxHeartbeats 4000000 in
set_option maxRecDepth 100000 in
theorem cl_become {d P O Y : Nat} {σ : zSo} {Q : Option Value → zSo → Prop} {p : paT} (hPO : cPP P O) (hP : PC σ O p) (hW : paW p Y) (h01 : σ O 0 = 0 ∨ σ O 0 = 1)
    (hQ : ∀ σ', zFr [P, P + 1, P + 2, P + 3, P + 4, P + 5, P + 6, P + 7, P + 8] σ σ' → PC σ' P p → σ' P 0 = σ O 0 → Q none σ') : zC d 27 [.ref P, .ref O] σ Q := by
  show zA d _ 0 [(0, .ref P), (1, .ref O)] [] σ Q
  have ww6 := hW.2.2.2.2.1
  have ws6 := hW.2.2.2.1
  rcases hPO with ⟨rfl, rfl⟩ | ⟨rfl, rfl⟩ | ⟨rfl, rfl⟩ | ⟨rfl, rfl⟩ | ⟨rfl, rfl⟩ | ⟨rfl, rfl⟩
  all_goals
    repeat refine zA_step rfl rfl ?_
    refine zA_if rfl h01 ?_
    repeat refine zA_step rfl rfl ?_
    simp only [nu_c0, nu_c6, nu_c36]
    refine zA_ret rfl (hQ _ (fun k hk => ?_) (hP.cong ws6 ww6 (fun j h1 h2 => ?_) (fun k h1 h2 j hj => ?_) (fun k h1 h2 j hj => ?_)) ?_)
    · simp only [List.mem_cons, List.not_mem_nil, or_false, not_or] at hk
      obtain ⟨k0, k1, k2, k3, k4, k5, k6, k7, k8⟩ := hk
      simp only [zcp, zup]
      rw [if_neg k8, if_neg k7, if_neg k6, if_neg k5, if_neg k4, if_neg k3, if_neg k2, if_neg k1]
      simp [k0]
    · rcases (show j = 1 ∨ j = 2 ∨ j = 3 ∨ j = 4 ∨ j = 5 by omega) with rfl | rfl | rfl | rfl | rfl <;> simp [zcp, zup, upd]
    · rcases (show k = 1 ∨ k = 2 ∨ k = 3 ∨ k = 4 ∨ k = 5 by omega) with rfl | rfl | rfl | rfl | rfl <;> simp [zcp, zup, upd, va_cpy, hj]
    · rcases (show k = 6 ∨ k = 7 ∨ k = 8 by omega) with rfl | rfl | rfl <;> simp [zcp, zup, upd, va_cpy, hj]
    · simp [zcp, zup, upd]
