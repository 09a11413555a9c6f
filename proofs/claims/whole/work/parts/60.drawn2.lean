/-! drawn, the reference -/
set_option maxHeartbeats 4000000 in
set_option maxRecDepth 100000 in
theorem mo_year {d r Y : Nat} {l : Int64} {σ : zSo} {Q : Option Value → zSo → Prop} {p q : paT} {x y n : Int32} (hl : l.toInt = (r : Int)) (hr : r < 2147483648) (hp : PM (σ 74) p) (hpw : pw q = pw p) (hM : PM (σ 76) q) (hW : paW q Y) (hY : Y ≤ 1500) (h0 : 0 < ps q)
    (hQ : ∀ σ' : zSo, zFr [76] σ σ' → PM (σ' 76) (drP q r) → zA (d + 10) 172 63 [(0, .ref 70), (1, .int x), (3, .int y), (4, .long l), (6, .int (n + 1))] [] σ' Q) : zA (d + 10) 172 81 [(0, .ref 70), (1, .int x), (3, .int y), (4, .long l), (6, .int n)] [] σ Q := by
  have ws6 := hW.2.2.2.1
  have w6 := hW.2.2.2.2.1
  have hs := Nat.mod_lt r h0
  have hps := hM.2.1
  have m7 : (l - l / 7 * 7).toInt = ((r % 7 : Nat) : Int) := lg_rem hl (b := 7) (by decide) (by omega) (by omega)
  have m5 : (l - l / 5 * 5).toInt = ((r % 5 : Nat) : Int) := lg_rem hl (b := 5) (by decide) (by omega) (by omega)
  have m9 : (l - l / 9 * 9).toInt32 = nI (r % 9) := lg_i (lg_rem hl (b := 9) (by decide) (by omega) (by omega)) (by omega)
  have ms : (l - l / (nI (ps q)).toInt64 * (nI (ps q)).toInt64).toInt32 = nI (r % ps q) := lg_i (lg_rem hl (b := ps q) (by rw [nu_wide, nu_I (by omega)]) h0 (by omega)) (by omega)
  have e1s : ps (dr1 q r) = ps q := by unfold ps; rw [(dr1_same q r).1]
  have hy9 := hW.2.2.2.2.2.1 (r % ps q) hs
  -- the yard is laid, then the year goes by
  have fin : ∀ (σ2 : zSo) (b : Nat), b ≤ 6 → zFr [76] σ σ2 → PM (σ2 76) (dr1 q r) → ∀ (f : Bool), (f = true ↔ (r % 5 = 0 ∧ pyd q (r % ps q) < 99)) → zA (d + 10) 172 170 [(0, .ref 70), (1, .int x), (3, .int y), (4, .long l), (6, .int n), (7, .int (nI (r % ps q))), (8, .int (nI b)), (9, .int (nI f.toNat))] [] σ2 Q := by
    intro σ2 b hb hF2 hM2 f hf
    have hy : σ2 76 (5 + r % ps q) = nI (pyd q (r % ps q)) := by
      have := hM2.2.2.2.2.1 (r % ps q) (by rw [e1s]; exact hs)
      rw [(dr1_same q r).2] at this
      exact this
    have e5 : (5 : Int32) + nI (r % ps q) = nI (5 + r % ps q) := by rw [show (5 : Int32) = nI 5 from rfl, nI_add]
    have last : ∀ (z : Int32) (yy : Nat), z = nI yy → (ydset (dr1 q r) (r % ps q) yy = if r % 5 = 0 then ydset (dr1 q r) (r % ps q) (min 99 (pyd q (r % ps q) + 1)) else dr1 q r) → zA (d + 10) 172 192 [(0, .ref 70), (1, .int x), (3, .int y), (4, .long l), (6, .int n), (7, .int (nI (r % ps q))), (8, .int (nI b)), (9, .int (nI f.toNat))] [] (zup σ2 76 (5 + r % ps q) z) Q := by
      intro z yy hz hyy
      have hM3 : PM (zup σ2 76 (5 + r % ps q) z 76) (ydset (dr1 q r) (r % ps q) yy) := by
        rw [zup_k, hz]
        exact hM2.yd (by omega) (by omega)
      have hF3 : zFr [76] σ (zup σ2 76 (5 + r % ps q) z) := hF2.up (by simp)
      rw [hyy] at hM3
      have hW3 : paW (if r % 5 = 0 then ydset (dr1 q r) (r % ps q) (min 99 (pyd q (r % ps q) + 1)) else dr1 q r) Y := by
        split
        · exact ydset_W (dr1_W hW h0) (by omega)
        · exact dr1_W hW h0
      repeat refine zA_step rfl rfl ?_
      refine zA_call rfl rfl (mo_age (n := 1) (Or.inr (Or.inl rfl)) hM3 hW3 (by omega) (by omega) (fun σ6 hF6 hM6 => ?_))
      repeat refine zA_step rfl rfl ?_
      refine zA_dr rfl rfl rfl ?_
      exact hQ σ6 (hF3.tr hF6) (by rw [drP_eq]; exact hM6)
    repeat refine zA_step rfl rfl ?_
    refine zA_ld (j := 5 + r % ps q) rfl e5 (by omega) (by decide) hy ?_
    cases f with
    | true =>
      obtain ⟨f1, f2⟩ := hf.mp rfl
      repeat refine zA_step rfl rfl ?_
      refine zA_sto (j := 5 + r % ps q) rfl e5 (by omega) (by decide) ?_
      exact last _ (pyd q (r % ps q) + 1) (nI_1 _) (by rw [if_pos f1, Nat.min_eq_right (by omega)])
    | false =>
      repeat refine zA_step rfl rfl ?_
      refine zA_sto (j := 5 + r % ps q) rfl e5 (by omega) (by decide) ?_
      refine last _ (pyd q (r % ps q)) (Int32.add_zero _) ?_
      have id1 : ydset (dr1 q r) (r % ps q) (pyd q (r % ps q)) = dr1 q r := by
        have := ydset_id (dr1 q r) (r % ps q)
        rw [(dr1_same q r).2] at this
        exact this
      by_cases c : r % 5 = 0
      · have : ¬ pyd q (r % ps q) < 99 := fun z => by have := hf.mpr ⟨c, z⟩; cases this
        rw [if_pos c, Nat.min_eq_left (by omega), show pyd q (r % ps q) = 99 by omega]
      · rw [if_neg c]; exact id1
  have part2 : ∀ (σ2 : zSo) (b : Nat), b ≤ 6 → zFr [76] σ σ2 → PM (σ2 76) (dr1 q r) → zA (d + 10) 172 131 [(0, .ref 70), (1, .int x), (3, .int y), (4, .long l), (6, .int n), (7, .int (nI (r % ps q)))] [.int (nI b)] σ2 Q := by
    intro σ2 b hb hF2 hM2
    have hy : σ2 76 (5 + r % ps q) = nI (pyd q (r % ps q)) := by
      have := hM2.2.2.2.2.1 (r % ps q) (by rw [e1s]; exact hs)
      rw [(dr1_same q r).2] at this
      exact this
    have e5 : (5 : Int32) + nI (r % ps q) = nI (5 + r % ps q) := by rw [show (5 : Int32) = nI 5 from rfl, nI_add]
    have no : ∀ h : ¬ (r % 5 = 0 ∧ pyd q (r % ps q) < 99), zA (d + 10) 172 170 [(0, .ref 70), (1, .int x), (3, .int y), (4, .long l), (6, .int n), (7, .int (nI (r % ps q))), (8, .int (nI b)), (9, .int (nI false.toNat))] [] σ2 Q := fun h => fin σ2 b hb hF2 hM2 false (by simp only [Bool.false_eq_true, false_iff]; exact h)
    repeat refine zA_step rfl rfl ?_
    refine zA_f (by simp (disch := omega) only [nu_lt, nu_le, nu_eq, nu_cmp_lt, nu_cmp_gt, nu_cmp_ge, nu_cmp_le, nu_wide, Int32.toInt_add, Int32.toInt_sub, Int32.toInt_mul, nu_I, Nat.reducePow, nu_bm, Int32.reduceToInt, Int64.reduceToInt]; omega) ?_
    repeat refine zA_step rfl rfl ?_
    by_cases e : r % 5 = 0
    · refine zA_t (by rw [nu_cmp_eq, nu_leq, m5, e]; rfl) ?_
      repeat refine zA_step rfl rfl ?_
      refine zA_ld (j := 5 + r % ps q) rfl e5 (by omega) (by decide) hy ?_
      repeat refine zA_step rfl rfl ?_
      by_cases c : pyd q (r % ps q) < 99
      · refine zA_f (by simp (disch := omega) only [nu_lt, nu_le, nu_eq, nu_cmp_lt, nu_cmp_gt, nu_cmp_ge, nu_cmp_le, nu_wide, Int32.toInt_add, Int32.toInt_sub, Int32.toInt_mul, nu_I, Nat.reducePow, nu_bm, Int32.reduceToInt, Int64.reduceToInt]; omega) ?_
        refine zA_s0 rfl ?_
        refine zA_s0 rfl ?_
        refine zA_s0 rfl ?_
        exact fin σ2 b hb hF2 hM2 true (by simp [e, c])
      · refine zA_t (by simp (disch := omega) only [nu_lt, nu_le, nu_eq, nu_cmp_lt, nu_cmp_gt, nu_cmp_ge, nu_cmp_le, nu_wide, Int32.toInt_add, Int32.toInt_sub, Int32.toInt_mul, nu_I, Nat.reducePow, nu_bm, Int32.reduceToInt, Int64.reduceToInt]; omega) ?_
        refine zA_s0 rfl ?_
        refine zA_s0 rfl ?_
        exact no (fun z => c z.2)
    · refine zA_f (by rw [nu_cmp_eq, nu_leq, m5]; show ¬ ((r % 5 : Nat) : Int) = 0; omega) ?_
      refine zA_s0 rfl ?_
      refine zA_s0 rfl ?_
      exact no (fun z => e z.1)
  repeat refine zA_step rfl rfl ?_
  simp only [nu_c2, hps]
  refine zA_if rfl (by rw [nu_leq, nu_wide, nu_I (by omega)]; show ¬ ((ps q : Nat) : Int) = 0; omega) ?_
  repeat refine zA_step rfl rfl ?_
  rw [ms]
  by_cases e : r % 7 = 0
  · refine zA_t (by rw [nu_cmp_eq, nu_leq, m7, e]; rfl) ?_
    repeat refine zA_step rfl rfl ?_
    refine zA_call rfl rfl (mo_everybody hp (by omega) ?_)
    rw [← hpw]
    repeat refine zA_step rfl rfl ?_
    rw [m9, show (1 : Int32) + nI (r % 9) = nI (1 + r % 9) from by rw [show (1 : Int32) = nI 1 from rfl, nI_add]]
    refine zA_call rfl rfl (mo_bump (Or.inr (Or.inl rfl)) hM hW (by omega) hs (Ev_lt w6) (by omega) (fun σ2 hF2 hM2 => ?_))
    refine zA_s0 rfl ?_
    refine part2 σ2 _ (Nat.le_trans (cn_le _ _) w6) hF2 ?_
    unfold dr1
    rw [if_pos e]
    exact hM2
  · refine zA_f (by rw [nu_cmp_eq, nu_leq, m7]; show ¬ ((r % 7 : Nat) : Int) = 0; omega) ?_
    refine zA_s0 rfl ?_
    refine part2 σ 0 (by omega) zFr.rf ?_
    unfold dr1
    rw [if_neg e]
    exact hM
