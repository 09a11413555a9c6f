/-! move, bribe -/
def ydset (p : paT) (o y : Nat) : paT := (p.1, (fun s => if s = o then y else pyd p s), p.2.2)
def pbset (p : paT) (o : Nat) (b : Int) : paT := (p.1, p.2.1, p.2.2.1, p.2.2.2.1, p.2.2.2.2.1, (fun w => if w = o then b else pb p w), p.2.2.2.2.2.2)
theorem ydset_W {p : paT} {Y o y : Nat} (hW : paW p Y) (hy : y ≤ 99) : paW (ydset p o y) Y := by
  obtain ⟨wl, wd, wy, ws6, ww6, wyd, www, wmm⟩ := hW
  refine ⟨wl, wd, wy, ws6, ww6, fun s hs => ?_, www, wmm⟩
  show (if s = o then y else pyd p s) ≤ 99
  split
  · exact hy
  · exact wyd s hs
theorem pbset_W {p : paT} {Y o : Nat} {b : Int} (hW : paW p Y) (hb : -20 ≤ b ∧ b ≤ 20) : paW (pbset p o b) Y := by
  obtain ⟨wl, wd, wy, ws6, ww6, wyd, www, wmm⟩ := hW
  refine ⟨wl, wd, wy, ws6, ww6, wyd, fun w hw => ?_, wmm⟩
  obtain ⟨a1, a2, a3, a4⟩ := www w hw
  refine ⟨a1, a2, a3, ?_⟩
  show -20 ≤ (if w = o then b else pb p w) ∧ (if w = o then b else pb p w) ≤ 20
  split
  · exact hb
  · exact a4
theorem PC.yd {σ σ' : zSo} {p : paT} {o y : Nat} (h : PC σ 20 p) (hk : ∀ k, 20 ≤ k → k ≤ 28 → k ≠ 21 → σ' k = σ k) (hy : ∀ s, σ' 21 s = if s = o then nI y else σ 21 s) : PC σ' 20 (ydset p o y) := by
  obtain ⟨a0, a2, a3, a4, a5, a6, a7⟩ := h
  unfold PC
  simp only [hk 20 (by omega) (by omega) (by omega), hk (20 + 2) (by omega) (by omega) (by omega), hk (20 + 3) (by omega) (by omega) (by omega), hk (20 + 4) (by omega) (by omega) (by omega), hk (20 + 5) (by omega) (by omega) (by omega), hk (20 + 6) (by omega) (by omega) (by omega), hk (20 + 7) (by omega) (by omega) (by omega), hk (20 + 8) (by omega) (by omega) (by omega)]
  refine ⟨a0, a2, a3, a4, fun s hs => ?_, a6, a7⟩
  show σ' 21 s = nI (if s = o then y else pyd p s)
  rw [hy]
  split
  · rfl
  · exact a5 s hs
theorem PC.pbs {σ σ' : zSo} {p : paT} {o : Nat} {b : Int} (h : PC σ 20 p) (hk : ∀ k, 20 ≤ k → k ≤ 28 → k ≠ 25 → σ' k = σ k) (hy : ∀ w, σ' 25 w = if w = o then Int32.ofInt b else σ 25 w) : PC σ' 20 (pbset p o b) := by
  obtain ⟨a0, a2, a3, a4, a5, a6, a7⟩ := h
  unfold PC
  simp only [hk 20 (by omega) (by omega) (by omega), hk (20 + 1) (by omega) (by omega) (by omega), hk (20 + 2) (by omega) (by omega) (by omega), hk (20 + 3) (by omega) (by omega) (by omega), hk (20 + 4) (by omega) (by omega) (by omega), hk (20 + 6) (by omega) (by omega) (by omega), hk (20 + 7) (by omega) (by omega) (by omega), hk (20 + 8) (by omega) (by omega) (by omega)]
  refine ⟨a0, a2, a3, a4, a5, fun w hw => ?_, a7⟩
  obtain ⟨c1, c2, c3, c4⟩ := a6 w hw
  refine ⟨c1, c2, c3, ?_⟩
  show σ' 25 w = Int32.ofInt (if w = o then b else pb p w)
  rw [hy]
  split
  · rfl
  · exact c4
theorem PM.yd {v : Nat → Int32} {p : paT} {o y : Nat} (h : PM v p) (hs6 : ps p ≤ 6) (ho : o < ps p) : PM (upd v (5 + o) (nI y)) (ydset p o y) := by
  obtain ⟨h0, h2, h3, h4, h5, h6, h7⟩ := h
  have lo : ∀ j, j ≠ 5 + o → upd v (5 + o) (nI y) j = v j := fun j hj => by simp [upd, hj]
  refine ⟨fun z => ⟨?_, ?_⟩, ?_, ?_, ?_, fun s hs => ?_, fun w hw => ⟨?_, ?_, ?_, ?_⟩, fun w s hw hs j hj => ?_⟩
  · rw [lo _ (by omega)]; exact (h0 z).1
  · rw [lo _ (by omega)]; exact (h0 z).2
  · rw [lo _ (by omega)]; exact h2
  · rw [lo _ (by omega)]; exact h3
  · rw [lo _ (by omega)]; exact h4
  · show _ = nI (if s = o then y else pyd p s)
    by_cases e : s = o
    · rw [if_pos e, e]
      simp [upd]
    · rw [if_neg e, lo _ (by omega)]; exact h5 s hs
  · rw [lo _ (by omega)]; exact (h6 w hw).1
  · rw [lo _ (by omega)]; exact (h6 w hw).2.1
  · rw [lo _ (by omega)]; exact (h6 w hw).2.2.1
  · rw [lo _ (by omega)]; exact (h6 w hw).2.2.2
  · rw [lo _ (by omega)]; exact h7 w s hw hs j hj
theorem PM.pbs {v : Nat → Int32} {p : paT} {o : Nat} {b : Int} (h : PM v p) (hs6 : ps p ≤ 6) (hw6 : pw p ≤ 6) (ho : o < pw p) : PM (upd v (11 + 4 * o + 3) (Int32.ofInt b)) (pbset p o b) := by
  obtain ⟨h0, h2, h3, h4, h5, h6, h7⟩ := h
  have lo : ∀ j, j ≠ 11 + 4 * o + 3 → upd v (11 + 4 * o + 3) (Int32.ofInt b) j = v j := fun j hj => by simp [upd, hj]
  refine ⟨fun z => ⟨?_, ?_⟩, ?_, ?_, ?_, fun s hs => ?_, fun w hw => ⟨?_, ?_, ?_, ?_⟩, fun w s hw hs j hj => ?_⟩
  · rw [lo _ (by omega)]; exact (h0 z).1
  · rw [lo _ (by omega)]; exact (h0 z).2
  · rw [lo _ (by omega)]; exact h2
  · rw [lo _ (by omega)]; exact h3
  · rw [lo _ (by omega)]; exact h4
  · have hs : s < ps p := hs
    rw [lo _ (by omega)]; exact h5 s hs
  · rw [lo _ (by omega)]; exact (h6 w hw).1
  · rw [lo _ (by omega)]; exact (h6 w hw).2.1
  · rw [lo _ (by omega)]; exact (h6 w hw).2.2.1
  · show _ = Int32.ofInt (if w = o then b else pb p w)
    by_cases e : w = o
    · rw [if_pos e, e]
      simp [upd]
    · rw [if_neg e, lo _ (by omega)]; exact (h6 w hw).2.2.2
  · have hs : s < ps p := hs
    have hw : w < pw p := hw
    rw [lo _ (by omega)]; exact h7 w s hw hs j hj
set_option maxHeartbeats 4000000 in
set_option maxRecDepth 100000 in
theorem pr_move {d : Nat} {σ : zSo} (x y : Int32) (hR : R σ) : zPair (d + 20) 67 146 [.int x, .int y] σ := by
  obtain ⟨-, -, -, -, ⟨p, hp, L, hL⟩, -⟩ := id hR
  obtain ⟨hW, hC, hM, hto, hsw⟩ := id hp
  obtain ⟨⟨hl, hsz, nx, hn, hx, hac⟩, hma⟩ := rActs_iff.mp hL
  have ws6 := hW.2.2.2.1
  have hk : zK σ (zup σ 70 0 0) := zK.rf.up rfl
  have hM' : PM (zup σ 70 0 0 74) p := hM
  have bad : ¬ ((0 ≤ x.toInt ∧ x.toInt < ps p) ∧ (0 ≤ y.toInt ∧ y.toInt ≤ 99)) → zC (d + 20) 146 [.ref 70, .int x, .int y] σ (fun r2 σ2 => r2 = some (.int (-1000001)) ∧ R σ2 ∧ ∀ k, 1000 ≤ k → σ2 k = σ k) := by
    intro hn
    show zA (d + 20) _ 0 [(0, .ref 70), (1, .int x), (2, .int y)] [] σ _
    repeat refine zA_step rfl rfl ?_
    refine zA_call rfl rfl (mo_isStone hM' ws6 (fun s hs e => ?_) (fun h => ?_))
    rotate_left
    · repeat refine zA_step rfl rfl ?_
      exact zA_ret rfl ⟨rfl, hR.kp hk⟩
    subst e
    repeat refine zA_step rfl rfl ?_
    refine zA_call rfl rfl (mo_inI 0 99 (by decide) (by decide) (fun z1 z2 => ?_) (fun z => ?_))
    · rw [nu_I (by omega)] at hn
      exact absurd ⟨⟨by omega, by omega⟩, ⟨z1, z2⟩⟩ hn
    · repeat refine zA_step rfl rfl ?_
      exact zA_ret rfl ⟨rfl, hR.kp hk⟩
  show zA (d + 20) _ 0 [(0, .ref 0), (1, .int x), (2, .int y)] [] σ _
  repeat refine zA_step rfl rfl ?_
  refine zA_call rfl rfl (cl_isStone hC ws6 (fun s hs e => ?_) (fun h => ?_))
  rotate_left
  · repeat refine zA_step rfl rfl ?_
    exact zA_ret rfl ⟨_, rfl, bad (fun z => h z.1)⟩
  subst e
  repeat refine zA_step rfl rfl ?_
  refine zA_call rfl rfl (cl_isYard (fun p1 p2 => ?_) (fun h => ?_))
  rotate_left
  · repeat refine zA_step rfl rfl ?_
    exact zA_ret rfl ⟨_, rfl, bad (fun z => h z.2)⟩
  obtain ⟨yd, hyd, e⟩ := nu_of (n := 100) (x := y) (by omega) (by omega)
  subst e
  have hpH : paH p := ⟨hW, by omega, hsw.mp (by omega)⟩
  repeat refine zA_step rfl rfl ?_
  refine zA_ld (j := s) rfl rfl (by omega) (by decide) (hC.2.2.2.2.1 s hs) ?_
  repeat refine zA_step rfl rfl ?_
  refine zA_call rfl rfl (cl_keep (sort := 1) hn hl (by omega) (by omega) hx hsz (fun σ1 hF k1 k2 k3 k4 k5 k6 k7 k8 => ?_))
  repeat refine zA_step rfl rfl ?_
  refine zA_sto (j := s) rfl rfl (by omega) (by decide) ?_
  repeat refine zA_step rfl rfl ?_
  have h2 : ∀ k, k ≠ 21 → ¬ (57 ≤ k ∧ k ≤ 63) → zup σ1 21 s (nI yd) k = σ k := fun k a1 a2 => by
    rw [zup_o _ _ _ a1, hF k (by simp only [List.mem_cons, List.not_mem_nil, or_false]; omega)]
  have ha2 : ∀ k, 57 ≤ k → k ≤ 63 → zup σ1 21 s (nI yd) k = σ1 k := fun k a1 a2 => zup_o _ _ _ (by omega)
  have hyy : ∀ t, zup σ1 21 s (nI yd) 21 t = if t = s then nI yd else σ 21 t := fun t => by
    rw [zup_k]
    show (if t = s then nI yd else σ1 21 t) = _
    rw [hF _ (by decide)]
  generalize zup σ1 21 s (nI yd) = σ2 at h2 ha2 hyy
  have hC2 : PC σ2 20 (ydset p s yd) := hC.yd (fun k c1 c2 c3 => h2 k c3 (by omega)) hyy
  have hca : cActs σ2 (ydset p s yd) ((p :: L).take 24) := by
    refine ac_push hl hn hac hpH ?_ ?_ ?_ (fun e he hne => ?_)
    · rw [ha2 _ (by omega) (by omega)]; exact k1
    · rw [ha2 _ (by omega) (by omega)]; exact k2
    · refine Or.inr (Or.inl ⟨?_, s, hs, ?_, ⟨rfl, fun t _ ht => ?_, fun w _ => ⟨rfl, rfl, rfl, fun _ => rfl⟩, fun w t _ _ _ => rfl⟩, ?_⟩)
      · rw [ha2 _ (by omega) (by omega)]; exact k3
      · rw [ha2 _ (by omega) (by omega)]; exact k4
      · show (if t = s then yd else pyd p t) = pyd p t
        rw [if_neg ht]
      · rw [ha2 _ (by omega) (by omega), k5 rfl]
        exact hC.2.2.2.2.1 s hs
    · obtain ⟨o1, o2, o3, o4⟩ := k8 e he hne
      rw [ha2 _ (by omega) (by omega), ha2 _ (by omega) (by omega), ha2 _ (by omega) (by omega), ha2 _ (by omega) (by omega), ha2 _ (by omega) (by omega), ha2 _ (by omega) (by omega)]
      exact ⟨o1, o2, o3, o4⟩
  have hM2 : PM (σ2 74) p := by rw [h2 _ (by omega) (by omega)]; exact hM
  have hM2' : PM (zup σ2 70 0 0 74) p := hM2
  refine zA_ret rfl ⟨_, rfl, ?_⟩
  show zA (d + 20) _ 0 [(0, .ref 70), (1, .int (nI s)), (2, .int (nI yd))] [] σ2 _
  repeat refine zA_step rfl rfl ?_
  refine zA_call rfl rfl (mo_isStone hM2' ws6 (fun s' hs' e => ?_) (fun h => nu_abs2 hs (by omega) h))
  repeat refine zA_step rfl rfl ?_
  refine zA_call rfl rfl (mo_inI 0 99 (by decide) (by decide) (fun z1 z2 => ?_) (fun z => absurd ⟨p1, p2⟩ z))
  repeat refine zA_step rfl rfl ?_
  have hma2 : mActs (zup σ2 70 0 0) L := hma.kp (by show σ2 70 _ = _; rw [h2 _ (by omega) (by omega)]) (by show σ2 77 = _; rw [h2 _ (by omega) (by omega)])
  refine zA_call rfl rfl (mo_keep (p := p) hl hma2 hM2 hW hac.mem (fun σ3 o1 o2 o3 => ?_))
  repeat refine zA_step rfl rfl ?_
  have hM3 : PM (σ3 74) p := by rw [o1 _ (by omega) (by omega)]; exact hM2
  refine zA_ld (j := 5 + s) rfl (nI_add 5 s) (by omega) (by decide) (hM3.2.2.2.2.1 s hs) ?_
  repeat refine zA_step rfl rfl ?_
  refine zA_sto (j := 5 + s) rfl (nI_add 5 s) (by omega) (by decide) ?_
  repeat refine zA_step rfl rfl ?_
  refine zA_ret rfl ⟨rfl, act_fin hR hp (fun k a1 a2 => h2 k (by omega) a2) hC2 ?_ hca (fun k a1 a2 a3 => ?_) (fun j a1 a2 => ?_) ?_ (o3.kp rfl rfl) (ydset_W hW (by omega)) rfl rfl⟩
  · rw [h2 _ (by omega) (by omega)]
  · rw [zup_o _ _ _ a1, o1 k a2 a3, zup_o _ _ _ a3]
  · rw [zup_o _ _ _ (by decide), o2 j a1, zup_k]
    simp only [upd]
    rw [if_neg a2]
  · rw [zup_k]
    exact hM3.yd ws6 hs
set_option maxHeartbeats 4000000 in
set_option maxRecDepth 100000 in
theorem pr_bribe {d : Nat} {σ : zSo} (x y : Int32) (hR : R σ) : zPair (d + 20) 68 147 [.int x, .int y] σ := by
  obtain ⟨-, -, -, -, ⟨p, hp, L, hL⟩, -⟩ := id hR
  obtain ⟨hW, hC, hM, hto, hsw⟩ := id hp
  obtain ⟨⟨hl, hsz, nx, hn, hx, hac⟩, hma⟩ := rActs_iff.mp hL
  have ws6 := hW.2.2.2.1
  have ww6 := hW.2.2.2.2.1
  have hmr : mR 74 := Or.inl rfl
  have hk : zK σ (zup σ 70 0 0) := zK.rf.up rfl
  have hM' : PM (zup σ 70 0 0 74) p := hM
  have bad : ¬ ((0 ≤ x.toInt ∧ x.toInt < pw p) ∧ (-20 ≤ y.toInt ∧ y.toInt ≤ 20)) → zC (d + 20) 147 [.ref 70, .int x, .int y] σ (fun r2 σ2 => r2 = some (.int (-1000001)) ∧ R σ2 ∧ ∀ k, 1000 ≤ k → σ2 k = σ k) := by
    intro hn
    show zA (d + 20) _ 0 [(0, .ref 70), (1, .int x), (2, .int y)] [] σ _
    repeat refine zA_step rfl rfl ?_
    refine zA_call rfl rfl (mo_isWitness hM' ww6 (fun s hs e => ?_) (fun h => ?_))
    rotate_left
    · repeat refine zA_step rfl rfl ?_
      exact zA_ret rfl ⟨rfl, hR.kp hk⟩
    subst e
    repeat refine zA_step rfl rfl ?_
    refine zA_call rfl rfl (mo_inI (-20) 20 (by decide) (by decide) (fun z1 z2 => ?_) (fun z => ?_))
    · rw [nu_I (by omega)] at hn
      exact absurd ⟨⟨by omega, by omega⟩, ⟨z1, z2⟩⟩ hn
    · repeat refine zA_step rfl rfl ?_
      exact zA_ret rfl ⟨rfl, hR.kp hk⟩
  show zA (d + 20) _ 0 [(0, .ref 0), (1, .int x), (2, .int y)] [] σ _
  repeat refine zA_step rfl rfl ?_
  refine zA_call rfl rfl (cl_isWitness hC ww6 (fun s hs e => ?_) (fun h => ?_))
  rotate_left
  · repeat refine zA_step rfl rfl ?_
    exact zA_ret rfl ⟨_, rfl, bad (fun z => h z.1)⟩
  subst e
  repeat refine zA_step rfl rfl ?_
  refine zA_c (fun c1 => ?_) (fun c1 => ?_)
  all_goals simp only [nu_lt, Int32.reduceToInt] at c1
  · repeat refine zA_step rfl rfl ?_
    exact zA_ret rfl ⟨_, rfl, bad (fun z => by omega)⟩
  repeat refine zA_step rfl rfl ?_
  refine zA_c (fun c2 => ?_) (fun c2 => ?_)
  all_goals simp only [nu_le, Int32.reduceToInt] at c2
  rotate_left
  · repeat refine zA_step rfl rfl ?_
    exact zA_ret rfl ⟨_, rfl, bad (fun z => by omega)⟩
  have hpH : paH p := ⟨hW, hsw.mpr (by omega), by omega⟩
  obtain ⟨⟨wk1, wk2⟩, -, -, wb⟩ := hW.2.2.2.2.2.2.1 s hs
  obtain ⟨u0, u1, u2, u3⟩ := hC.2.2.2.2.2.1 s hs
  have tomod : ∀ σ1 (Q : Option Value → zSo → Prop), PM (σ1 74) p → zA (d + 20) 147 39 [(0, .ref 70), (1, .int (nI s)), (2, .int y)] [.int (nI (pk p s))] (zup σ1 70 0 0) Q → zC (d + 20) 147 [.ref 70, .int (nI s), .int y] σ1 Q := by
    intro σ1 Q hM1 K
    have hM1' : PM (zup σ1 70 0 0 74) p := hM1
    show zA (d + 20) _ 0 [(0, .ref 70), (1, .int (nI s)), (2, .int y)] [] σ1 _
    repeat refine zA_step rfl rfl ?_
    refine zA_call rfl rfl (mo_isWitness hM1' ww6 (fun s' hs' e => ?_) (fun h => nu_abs2 hs (by omega) h))
    repeat refine zA_step rfl rfl ?_
    refine zA_call rfl rfl (mo_inI (-20) 20 (by decide) (by decide) (fun z1 z2 => ?_) (fun z => absurd ⟨by omega, by omega⟩ z))
    repeat refine zA_step rfl rfl ?_
    refine zA_call rfl rfl (mo_of hmr (by omega) (k := 0) (by omega) (hM1'.2.2.2.2.2.1 s hs).1 ?_)
    exact K
  repeat refine zA_step rfl rfl ?_
  refine zA_ld (j := s) rfl rfl (by omega) (by decide) u0 ?_
  repeat refine zA_step rfl rfl ?_
  by_cases hk2 : pk p s = 2
  rotate_left
  · refine zA_f (by simp (disch := omega) only [nu_lt, nu_le, nu_eq, nu_cmp_lt, nu_cmp_gt, nu_cmp_ge, nu_cmp_le, nu_wide, Int32.toInt_add, Int32.toInt_sub, Int32.toInt_mul, nu_I, Nat.reducePow, nu_bm, Int32.reduceToInt, Int64.reduceToInt]; omega) ?_
    repeat refine zA_step rfl rfl ?_
    refine zA_ret rfl ⟨_, rfl, tomod σ _ hM ?_⟩
    repeat refine zA_step rfl rfl ?_
    refine zA_f (by simp (disch := omega) only [nu_lt, nu_le, nu_eq, nu_cmp_lt, nu_cmp_gt, nu_cmp_ge, nu_cmp_le, nu_wide, Int32.toInt_add, Int32.toInt_sub, Int32.toInt_mul, nu_I, Nat.reducePow, nu_bm, Int32.reduceToInt, Int64.reduceToInt]; omega) ?_
    repeat refine zA_step rfl rfl ?_
    exact zA_ret rfl ⟨rfl, hR.kp hk⟩
  refine zA_t (by simp (disch := omega) only [nu_lt, nu_le, nu_eq, nu_cmp_lt, nu_cmp_gt, nu_cmp_ge, nu_cmp_le, nu_wide, Int32.toInt_add, Int32.toInt_sub, Int32.toInt_mul, nu_I, Nat.reducePow, nu_bm, Int32.reduceToInt, Int64.reduceToInt]; omega) ?_
  repeat refine zA_step rfl rfl ?_
  refine zA_ld (j := s) rfl rfl (by omega) (by decide) u3 ?_
  repeat refine zA_step rfl rfl ?_
  refine zA_call rfl rfl (cl_keep (sort := 2) hn hl (by omega) (by omega) hx hsz (fun σ1 hF k1 k2 k3 k4 k5 k6 k7 k8 => ?_))
  repeat refine zA_step rfl rfl ?_
  refine zA_sto (j := s) rfl rfl (by omega) (by decide) ?_
  repeat refine zA_step rfl rfl ?_
  have ey : y = Int32.ofInt y.toInt := by rw [Int32.ofInt_toInt]
  have h2 : ∀ k, k ≠ 25 → ¬ (57 ≤ k ∧ k ≤ 63) → zup σ1 25 s y k = σ k := fun k a1 a2 => by
    rw [zup_o _ _ _ a1, hF k (by simp only [List.mem_cons, List.not_mem_nil, or_false]; omega)]
  have ha2 : ∀ k, 57 ≤ k → k ≤ 63 → zup σ1 25 s y k = σ1 k := fun k a1 a2 => zup_o _ _ _ (by omega)
  have hyy : ∀ t, zup σ1 25 s y 25 t = if t = s then Int32.ofInt y.toInt else σ 25 t := fun t => by
    rw [zup_k, ← ey]
    show (if t = s then y else σ1 25 t) = _
    rw [hF _ (by decide)]
  generalize zup σ1 25 s y = σ2 at h2 ha2 hyy
  have hC2 : PC σ2 20 (pbset p s y.toInt) := hC.pbs (fun k c1 c2 c3 => h2 k c3 (by omega)) hyy
  have hca : cActs σ2 (pbset p s y.toInt) ((p :: L).take 24) := by
    refine ac_push hl hn hac hpH ?_ ?_ ?_ (fun e he hne => ?_)
    · rw [ha2 _ (by omega) (by omega)]; exact k1
    · rw [ha2 _ (by omega) (by omega)]; exact k2
    · refine Or.inr (Or.inr (Or.inl ⟨?_, s, hs, ?_, ⟨rfl, fun t _ ht => rfl, fun w _ => ⟨rfl, rfl, rfl, fun hw => ?_⟩, fun w t _ _ _ => rfl⟩, ?_⟩))
      · rw [ha2 _ (by omega) (by omega)]; exact k3
      · rw [ha2 _ (by omega) (by omega)]; exact k4
      · show (if w = s then y.toInt else pb p w) = pb p w
        rw [if_neg hw]
      · rw [ha2 _ (by omega) (by omega), k6 rfl]
        exact u3
    · obtain ⟨o1, o2, o3, o4⟩ := k8 e he hne
      rw [ha2 _ (by omega) (by omega), ha2 _ (by omega) (by omega), ha2 _ (by omega) (by omega), ha2 _ (by omega) (by omega), ha2 _ (by omega) (by omega), ha2 _ (by omega) (by omega)]
      exact ⟨o1, o2, o3, o4⟩
  have hM2 : PM (σ2 74) p := by rw [h2 _ (by omega) (by omega)]; exact hM
  refine zA_ret rfl ⟨_, rfl, tomod σ2 _ hM2 ?_⟩
  repeat refine zA_step rfl rfl ?_
  refine zA_t (by simp (disch := omega) only [nu_lt, nu_le, nu_eq, nu_cmp_lt, nu_cmp_gt, nu_cmp_ge, nu_cmp_le, nu_wide, Int32.toInt_add, Int32.toInt_sub, Int32.toInt_mul, nu_I, Nat.reducePow, nu_bm, Int32.reduceToInt, Int64.reduceToInt]; omega) ?_
  repeat refine zA_step rfl rfl ?_
  have hma2 : mActs (zup σ2 70 0 0) L := hma.kp (by show σ2 70 _ = _; rw [h2 _ (by omega) (by omega)]) (by show σ2 77 = _; rw [h2 _ (by omega) (by omega)])
  refine zA_call rfl rfl (mo_keep (p := p) hl hma2 hM2 hW hac.mem (fun σ3 o1 o2 o3 => ?_))
  repeat refine zA_step rfl rfl ?_
  have hM3 : PM (σ3 74) p := by rw [o1 _ (by omega) (by omega)]; exact hM2
  refine zA_call rfl rfl (mo_of hmr (by omega) (k := 3) (by omega) (hM3.2.2.2.2.2.1 s hs).2.2.2 ?_)
  repeat refine zA_step rfl rfl ?_
  refine zA_sto (j := 11 + 4 * s + 3) rfl (by rw [nu_eq]; simp (disch := omega) only [Int32.toInt_add, Int32.toInt_sub, Int32.toInt_mul, nu_I, Nat.reducePow, nu_bm, Int32.reduceToInt, Int64.reduceToInt]; omega) (by omega) (by decide) ?_
  repeat refine zA_step rfl rfl ?_
  refine zA_ret rfl ⟨rfl, act_fin hR hp (fun k a1 a2 => h2 k (by omega) a2) hC2 ?_ hca (fun k a1 a2 a3 => ?_) (fun j a1 a2 => ?_) ?_ (o3.kp rfl rfl) (pbset_W hW ⟨by omega, by omega⟩) rfl rfl⟩
  · rw [h2 _ (by omega) (by omega)]
  · rw [zup_o _ _ _ a1, o1 k a2 a3, zup_o _ _ _ a3]
  · rw [zup_o _ _ _ (by decide), o2 j a1, zup_k]
    simp only [upd]
    rw [if_neg a2]
  · rw [zup_k]
    have := hM3.pbs (b := y.toInt) ws6 ww6 hs
    rw [← ey] at this
    exact this
