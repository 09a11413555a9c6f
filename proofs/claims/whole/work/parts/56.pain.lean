/-! pain -/
theorem pa_ext {p q : paT} (h1 : p.1 = q.1) (h2 : pyd p = pyd q) (h3 : pk p = pk q) (h4 : pa p = pa q) (h5 : pe p = pe q) (h6 : pb p = pb q) (h7 : pm p = pm q) : p = q := by
  obtain ⟨p1, p2, p3, p4, p5, p6, p7⟩ := p
  obtain ⟨q1, q2, q3, q4, q5, q6, q7⟩ := q
  simp only [pyd, pk, pa, pe, pb, pm] at *
  subst h1 h2 h3 h4 h5 h6 h7
  rfl
theorem tkb_bm (p : paT) (s who pn k : Nat) : tkb (bmK p s who pn k) = tkb p := by
  obtain ⟨-, -, -, h4, h5, -⟩ := bmK_same p s who pn k
  unfold tkb
  rw [h4, h5]
theorem bmK_again (p : paT) (s who m n : Nat) : bmK (bmK p s who m (pw p)) s who n (pw p) = bmK p s who n (pw p) := by
  obtain ⟨a1, a2, a3, a4, a5, a6⟩ := bmK_same (bmK p s who m (pw p)) s who n (pw p)
  obtain ⟨b1, b2, b3, b4, b5, b6⟩ := bmK_same p s who m (pw p)
  obtain ⟨c1, c2, c3, c4, c5, c6⟩ := bmK_same p s who n (pw p)
  refine pa_ext ?_ ?_ ?_ ?_ ?_ ?_ ?_
  · rw [a1, b1, c1]
  · rw [a2, b2, c2]
  · rw [a3, b3, c3]
  · rw [a4, b4, c4]
  · rw [a5, b5, c5]
  · rw [a6, b6, c6]
  · funext a b
    rw [bmK_m, bmK_m, bmK_m, tkb_bm, b2, (bmK_1 p s who m (pw p)).2.2.1]
    by_cases h : b = s ∧ a < pw p ∧ who.testBit a = true ∧ tkb p a = true
    · rw [if_pos h, if_pos h]
    · rw [if_neg h, if_neg h, if_neg h]
theorem bmK_eq (p : paT) (s m : Nat) {X Z : Nat} (h : ∀ w, w < pw p → tkb p w = true → X.testBit w = Z.testBit w) : bmK p s X m (pw p) = bmK p s Z m (pw p) := by
  obtain ⟨b1, b2, b3, b4, b5, b6⟩ := bmK_same p s X m (pw p)
  obtain ⟨c1, c2, c3, c4, c5, c6⟩ := bmK_same p s Z m (pw p)
  refine pa_ext ?_ ?_ ?_ ?_ ?_ ?_ ?_
  · rw [b1, c1]
  · rw [b2, c2]
  · rw [b3, c3]
  · rw [b4, c4]
  · rw [b5, c5]
  · rw [b6, c6]
  · funext a b
    rw [bmK_m, bmK_m]
    by_cases h1 : a < pw p ∧ tkb p a = true
    · rw [h a h1.1 h1.2]
    · rw [if_neg (fun z => h1 ⟨z.2.1, z.2.2.2⟩), if_neg (fun z => h1 ⟨z.2.1, z.2.2.2⟩)]
def Ev (p : paT) : Nat := 2 ^ pw p - 1
theorem Ev_tb (p : paT) (w : Nat) : (Ev p).testBit w = decide (w < pw p) := by
  unfold Ev
  exact Nat.testBit_two_pow_sub_one _ _
theorem Ev_lt {p : paT} (h : pw p ≤ 6) : Ev p < 64 := by
  unfold Ev
  have : 2 ^ pw p ≤ 2 ^ 6 := Nat.pow_le_pow_right (by omega) h
  have : 0 < 2 ^ pw p := Nat.pow_pos (by omega)
  omega
/-- all are taken now, bumped so hard; then n years go by -/
def tkn (p : paT) (s pn n : Nat) : paT := agP (bmK p s (Ev p) pn (pw p)) n
set_option maxHeartbeats 4000000 in
set_option maxRecDepth 100000 in
theorem cl_ifTaken {d s pn n : Nat} {σ : zSo} {Q : Option Value → zSo → Prop} {p q : paT} {a : Nat} (hC : PC σ 20 p) (hT : PC σ 29 (agP q a)) (hq : q = p ∨ ∃ j, (1 ≤ j ∧ j ≤ 9) ∧ q = bmK p s (Ev p) j (pw p)) (hW : paW p 999) (hs : s < ps p) (hpn : 1 ≤ pn ∧ pn ≤ 9) (hn : n ≤ 100)
    (hQ : ∀ σ' : zSo, zFr tC σ σ' → PC σ' 29 (tkn p s pn n) → Q (some (.int (nI (bn (swb (tkn p s pn n) s) (pw p))))) σ') : zC (d + 10) 96 [.ref 0, .int (nI s), .int (nI pn), .int (nI n)] σ Q := by
  have w6 := hW.2.2.2.2.1
  have hpy := hW.2.2.1
  have hq1 : q.1 = p.1 := by
    rcases hq with rfl | ⟨j, hj, rfl⟩
    · rfl
    · exact (bmK_same p s (Ev p) j (pw p)).1
  have ew : pw q = pw p := by unfold pw; rw [hq1]
  have es : ps q = ps p := by unfold ps; rw [hq1]
  have ey : py q = py p := by unfold py; rw [hq1]
  have hWq : paW q 999 := by
    rcases hq with rfl | ⟨j, hj, rfl⟩
    · exact hW
    · exact bmK_W hW hs hj.1 hj.2 _
  have hb : bmK q s (2 ^ pw q - 1) pn (pw q) = bmK p s (Ev p) pn (pw p) := by
    rw [ew]
    rcases hq with rfl | ⟨j, hj, rfl⟩
    · rfl
    · exact bmK_again p s (Ev p) j pn
  have hyr := hC.2.2.2.1
  have hC1 := hT.zy (n := 0) (x := σ 20 3) (by rw [hyr, ey]; rfl)
  rw [agP_0] at hC1
  show zA (d + 10) _ 0 [(0, .ref 0), (1, .int (nI s)), (2, .int (nI pn)), (3, .int (nI n))] [] σ Q
  repeat refine zA_step rfl rfl ?_
  refine zA_call rfl rfl (cl_everybody (p := q) (Or.inr (Or.inl rfl)) (by omega) hC1.2.2.1 ?_)
  repeat refine zA_step rfl rfl ?_
  have hE6 : 2 ^ pw q - 1 < 64 := by rw [ew]; exact Ev_lt w6
  refine zA_call rfl rfl (cl_bump (Or.inr (Or.inl rfl)) hC1 hWq (by omega) (by omega) hE6 hpn (fun σ2 hF2 hC2 => ?_))
  rw [hb] at hC2
  repeat refine zA_step rfl rfl ?_
  have hC3 : PC _ 29 (tkn p s pn n) := PC.zy (m := 0) (n := n) (x := σ2 20 3 + nI n) (p := bmK p s (Ev p) pn (pw p)) hC2 (by
    rw [hF2 20 (by decide), (bmK_1 p s (Ev p) pn (pw p)).2.2.1]
    show σ 20 3 + nI n = _
    rw [hyr, nI_add])
  have hW3 : paW (tkn p s pn n) 2000 := (agP_W (bmK_W hW hs hpn.1 hpn.2 _)).mono (by
    show py (bmK p s (Ev p) pn (pw p)) + n ≤ 2000
    rw [(bmK_1 p s (Ev p) pn (pw p)).2.2.1]; omega)
  have e1 : pw (tkn p s pn n) = pw p := (bmK_1 p s (Ev p) pn (pw p)).2.1
  have e2 : ps (tkn p s pn n) = ps p := (bmK_1 p s (Ev p) pn (pw p)).1
  refine zA_call rfl rfl (cl_swearersTo (Or.inr (Or.inl rfl)) hC3 hW3 (by omega) (by omega) ?_)
  rw [e1]
  refine zA_ret rfl (hQ _ (fun k hk => ?_) hC3)
  simp only [List.mem_cons, List.not_mem_nil, or_false, not_or] at hk
  rw [zup_o _ _ _ hk.1, hF2 k (by simp only [List.mem_cons, List.not_mem_nil, or_false]; omega), zup_o _ _ _ hk.1]
set_option maxHeartbeats 4000000 in
set_option maxRecDepth 100000 in
theorem mo_sworeLater {d s who pn n : Nat} {σ : zSo} {Q : Option Value → zSo → Prop} {p : paT} (hM : PM (σ 74) p) (hW : paW p 999) (hs : s < ps p) (hwho : who < 64) (hpn : 1 ≤ pn ∧ pn ≤ 9) (hn : n ≤ 100)
    (hQ : ∀ σ' : zSo, zFr [76] σ σ' → Q (some (.int (nI (cS (agP (bmK p s who pn (pw p)) n) s)))) σ') : zC (d + 10) 161 [.ref 70, .int (nI s), .int (nI who), .int (nI pn), .int (nI n)] σ Q := by
  have w6 := hW.2.2.2.2.1
  have hpy := hW.2.2.1
  have f := bmK_1 p s who pn (pw p)
  have hWb := bmK_W (who := who) hW hs hpn.1 hpn.2 (pw p)
  have hW3 : paW (agP (bmK p s who pn (pw p)) n) 2000 := (agP_W hWb).mono (by
    show py (bmK p s who pn (pw p)) + n ≤ 2000
    rw [f.2.2.1]; omega)
  have hcn : cn (bmc p who) (pw p) ≤ 6 := Nat.le_trans (cn_le _ _) w6
  show zA (d + 10) _ 0 [(0, .ref 70), (1, .int (nI s)), (2, .int (nI who)), (3, .int (nI pn)), (4, .int (nI n))] [] σ Q
  repeat refine zA_step rfl rfl ?_
  refine zA_call rfl rfl (mo_layThen hM hW (fun σ2 hF2 hM2 => ?_))
  repeat refine zA_step rfl rfl ?_
  refine zA_call rfl rfl (mo_bump (Or.inr (Or.inl rfl)) hM2 hW (by omega) hs hwho hpn (fun σ3 hF3 hM3 => ?_))
  repeat refine zA_step rfl rfl ?_
  refine zA_call rfl rfl (mo_age (n := n) (Or.inr (Or.inl rfl)) hM3 hWb (by omega) hn (fun σ4 hF4 hM4 => ?_))
  repeat refine zA_step rfl rfl ?_
  refine zA_t (by simp (disch := omega) only [nu_lt, nu_le, nu_eq, nu_cmp_lt, nu_cmp_gt, nu_cmp_ge, nu_cmp_le, nu_wide, Int32.toInt_add, Int32.toInt_sub, Int32.toInt_mul, nu_I, Nat.reducePow, nu_bm, Int32.reduceToInt, Int64.reduceToInt]; omega) ?_
  repeat refine zA_step rfl rfl ?_
  refine zA_call rfl rfl (mo_whoSwears (Or.inr (Or.inl rfl)) hM4 hW3 (by omega) (by show s < ps (bmK p s who pn (pw p)); omega) ?_)
  refine zA_call rfl rfl (mo_bits (bn_lt64 _ (by show pw (bmK p s who pn (pw p)) ≤ 6; omega)) ?_)
  exact zA_ret rfl (hQ _ ((hF2.tr hF3).tr hF4))
theorem tk_Ev (p : paT) (s m : Nat) : bmK p s (bn (tkb p) (pw p)) m (pw p) = bmK p s (Ev p) m (pw p) := bmK_eq p s m (fun w hw ht => by
  rw [bn_tb, Ev_tb, ht, Bool.and_true])
set_option maxHeartbeats 4000000 in
set_option maxRecDepth 100000 in
theorem pr_pain {d : Nat} {σ : zSo} (x y z : Int32) (hR : R σ) : zPair (d + 20) 78 164 [.int x, .int y, .int z] σ := by
  obtain ⟨-, -, -, -, ⟨p, ⟨hW, hC, hM, hT, -⟩, -⟩, -⟩ := id hR
  have ws6 := hW.2.2.2.1
  have w6 := hW.2.2.2.2.1
  have hpy := hW.2.2.1
  have hk : zK σ (zup σ 70 0 0) := zK.rf.up rfl
  have hM' : PM (zup σ 70 0 0 74) p := hM
  have bad : ¬ ((0 ≤ x.toInt ∧ x.toInt < ps p) ∧ (1 ≤ y.toInt ∧ y.toInt ≤ 60) ∧ (1 ≤ z.toInt ∧ z.toInt ≤ 6)) → zC (d + 20) 164 [.ref 70, .int x, .int y, .int z] σ (fun r2 σ2 => r2 = some (.int (-1000001)) ∧ R σ2 ∧ ∀ k, 1000 ≤ k → σ2 k = σ k) := by
    intro hn
    show zA (d + 20) _ 0 [(0, .ref 70), (1, .int x), (2, .int y), (3, .int z)] [] σ _
    repeat refine zA_step rfl rfl ?_
    refine zA_call rfl rfl (mo_isStone hM' ws6 (fun s hs e => ?_) (fun h => ?_))
    rotate_left
    · repeat refine zA_step rfl rfl ?_
      exact zA_ret rfl ⟨rfl, hR.kp hk⟩
    subst e
    repeat refine zA_step rfl rfl ?_
    refine zA_call rfl rfl (mo_inI 1 60 (by decide) (by decide) (fun y1 y2 => ?_) (fun z => ?_))
    rotate_left
    · repeat refine zA_step rfl rfl ?_
      exact zA_ret rfl ⟨rfl, hR.kp hk⟩
    repeat refine zA_step rfl rfl ?_
    refine zA_call rfl rfl (mo_inI 1 6 (by decide) (by decide) (fun z1 z2 => ?_) (fun z => ?_))
    · rw [nu_I (by omega)] at hn
      exact absurd ⟨⟨by omega, by omega⟩, ⟨y1, y2⟩, ⟨z1, z2⟩⟩ hn
    · repeat refine zA_step rfl rfl ?_
      exact zA_ret rfl ⟨rfl, hR.kp hk⟩
  show zA (d + 20) _ 0 [(0, .ref 0), (1, .int x), (2, .int y), (3, .int z)] [] σ _
  repeat refine zA_step rfl rfl ?_
  refine zA_call rfl rfl (cl_isStone hC ws6 (fun s hs e => ?_) (fun h => ?_))
  rotate_left
  · repeat refine zA_step rfl rfl ?_
    exact zA_ret rfl ⟨_, rfl, bad (fun z => h z.1)⟩
  subst e
  repeat refine zA_step rfl rfl ?_
  refine zA_call rfl rfl (cl_isLater (fun l1 l2 => ?_) (fun h => ?_))
  rotate_left
  · repeat refine zA_step rfl rfl ?_
    exact zA_ret rfl ⟨_, rfl, bad (fun z => h z.2.1)⟩
  obtain ⟨n, hn, e⟩ := nu_of (n := 61) (x := y) (by omega) (by omega)
  subst e
  rw [nu_I (by omega)] at l1 l2
  repeat refine zA_step rfl rfl ?_
  refine zA_call rfl rfl (cl_isMany (fun p1 p2 => ?_) (fun h => ?_))
  rotate_left
  · repeat refine zA_step rfl rfl ?_
    exact zA_ret rfl ⟨_, rfl, bad (fun z => h z.2.2)⟩
  obtain ⟨m, hm, e⟩ := nu_of (n := 7) (x := z) (by omega) (by omega)
  subst e
  rw [nu_I (by omega)] at p1 p2
  repeat refine zA_step rfl rfl ?_
  refine zA_call rfl rfl (cl_become (Or.inl ⟨rfl, rfl⟩) hC hW (by rw [hT]; split <;> simp) (fun σ2 hF hC2 _ => ?_))
  repeat refine zA_step rfl rfl ?_
  let P : Nat → Bool := fun k => decide (m ≤ cS (tkn p s k n) s)
  have lpc : ∀ (Q : Option Value → zSo → Prop) (u k : Nat), k + u = 10 → 1 ≤ k → ∀ (σ3 : zSo) (a : Nat) (q : paT), zFr tC σ σ3 → PC σ3 29 (agP q a) → (q = p ∨ ∃ j, (1 ≤ j ∧ j ≤ 9) ∧ q = bmK p s (Ev p) j (pw p)) → ∀ i : Int32, i = nI k → (∀ σ4 : zSo, zFr tC σ σ4 → Q (some (.int (eO (ff P u k)))) σ4) → zA (d + 20) 78 39 [(0, .ref 0), (1, .int (nI s)), (2, .int (nI n)), (3, .int (nI m)), (4, .int i)] [] σ3 Q := by
    intro Q u
    induction u with
    | zero =>
      intro k hk k1 σ3 a q hF3 hC3 hq i ei K
      subst ei
      have : k = 10 := by omega
      subst this
      refine zA_s0 rfl ?_
      repeat refine zA_step rfl rfl ?_
      exact zA_ret rfl (K σ3 hF3)
    | succ u ih =>
      intro k hk k1 σ3 a q hF3 hC3 hq i ei K
      subst ei
      refine zA_s0 rfl ?_
      repeat refine zA_step rfl rfl ?_
      refine zA_f (by simp (disch := omega) only [nu_lt, nu_le, nu_eq, nu_cmp_lt, nu_cmp_gt, nu_cmp_ge, nu_cmp_le, nu_wide, Int32.toInt_add, Int32.toInt_sub, Int32.toInt_mul, nu_I, Nat.reducePow, nu_bm, Int32.reduceToInt, Int64.reduceToInt]; omega) ?_
      repeat refine zA_step rfl rfl ?_
      have hC' : PC σ3 20 p := hC.fr hW (fun k h1 h2 => hF3 k (by simp only [List.mem_cons, List.not_mem_nil, or_false]; omega))
      refine zA_call rfl rfl (cl_ifTaken hC' hC3 hq hW hs (by omega) (by omega) (fun σ4 hF4 hC4 => ?_))
      refine zA_call rfl rfl (cl_bitCount (bn_lt64 _ w6) ?_)
      have hc6 : cS (tkn p s k n) s ≤ 6 := cS_le
      have ec : pc6 (bn (swb (tkn p s k n) s) (pw p)) = cS (tkn p s k n) s := by
        unfold cS
        rw [show pw (tkn p s k n) = pw p from (bmK_1 p s (Ev p) k (pw p)).2.1]
      rw [ec]
      repeat refine zA_step rfl rfl ?_
      unfold ff at K
      by_cases h : m ≤ cS (tkn p s k n) s
      · refine zA_f (by simp (disch := omega) only [nu_lt, nu_le, nu_eq, nu_cmp_lt, nu_cmp_gt, nu_cmp_ge, nu_cmp_le, nu_wide, Int32.toInt_add, Int32.toInt_sub, Int32.toInt_mul, nu_I, Nat.reducePow, nu_bm, Int32.reduceToInt, Int64.reduceToInt]; omega) ?_
        repeat refine zA_step rfl rfl ?_
        rw [if_pos (show P k = true from decide_eq_true h)] at K
        exact zA_ret rfl (K _ (hF3.tr hF4))
      · refine zA_t (by simp (disch := omega) only [nu_lt, nu_le, nu_eq, nu_cmp_lt, nu_cmp_gt, nu_cmp_ge, nu_cmp_le, nu_wide, Int32.toInt_add, Int32.toInt_sub, Int32.toInt_mul, nu_I, Nat.reducePow, nu_bm, Int32.reduceToInt, Int64.reduceToInt]; omega) ?_
        repeat refine zA_step rfl rfl ?_
        rw [if_neg (show ¬ P k = true from fun z => h (of_decide_eq_true z))] at K
        exact ih (k + 1) (by omega) (by omega) _ n _ (hF3.tr hF4) hC4 (Or.inr ⟨k, by omega, rfl⟩) _ (nI_1 k) K
  refine lpc _ 9 1 (by omega) (by omega) σ2 0 p hF hC2 (Or.inl rfl) 1 rfl (fun σ4 hF4 => ⟨_, rfl, ?_⟩)
  have hk4 := zK_tC zK.rf hF4
  have hM4 : PM (zup σ4 70 0 0 74) p := by
    show PM (σ4 74) p
    rw [hF4 _ (by decide)]; exact hM
  show zA (d + 20) _ 0 [(0, .ref 70), (1, .int (nI s)), (2, .int (nI n)), (3, .int (nI m))] [] σ4 _
  repeat refine zA_step rfl rfl ?_
  refine zA_call rfl rfl (mo_isStone hM4 ws6 (fun s' hs' e => ?_) (fun h => nu_abs2 hs (by omega) h))
  repeat refine zA_step rfl rfl ?_
  refine zA_call rfl rfl (mo_inI 1 60 (by decide) (by decide) (fun z1 z2 => ?_) (fun z => absurd ⟨by rw [nu_I (by omega)]; omega, by rw [nu_I (by omega)]; omega⟩ z))
  repeat refine zA_step rfl rfl ?_
  refine zA_call rfl rfl (mo_inI 1 6 (by decide) (by decide) (fun z1 z2 => ?_) (fun z => absurd ⟨by rw [nu_I (by omega)]; omega, by rw [nu_I (by omega)]; omega⟩ z))
  repeat refine zA_step rfl rfl ?_
  have lpm : ∀ (Q : Option Value → zSo → Prop) (u k : Nat), k + u = 10 → 1 ≤ k → ∀ σ3 : zSo, zFr [76] (zup σ4 70 0 0) σ3 → ∀ i : Int32, i = nI k → (∀ σ6 : zSo, zFr [76] (zup σ4 70 0 0) σ6 → Q (some (.int (eO (ff P u k)))) σ6) → zA (d + 20) 164 43 [(0, .ref 70), (1, .int (nI s)), (2, .int (nI n)), (3, .int (nI m)), (4, .int i)] [] σ3 Q := by
    intro Q u
    induction u with
    | zero =>
      intro k hk k1 σ3 hF3 i ei K
      subst ei
      have : k = 10 := by omega
      subst this
      refine zA_s0 rfl ?_
      repeat refine zA_step rfl rfl ?_
      exact zA_ret rfl (K σ3 hF3)
    | succ u ih =>
      intro k hk k1 σ3 hF3 i ei K
      subst ei
      have hM3 : PM (σ3 74) p := by rw [hF3 _ (by decide)]; exact hM4
      refine zA_s0 rfl ?_
      repeat refine zA_step rfl rfl ?_
      refine zA_f (by simp (disch := omega) only [nu_lt, nu_le, nu_eq, nu_cmp_lt, nu_cmp_gt, nu_cmp_ge, nu_cmp_le, nu_wide, Int32.toInt_add, Int32.toInt_sub, Int32.toInt_mul, nu_I, Nat.reducePow, nu_bm, Int32.reduceToInt, Int64.reduceToInt]; omega) ?_
      repeat refine zA_step rfl rfl ?_
      refine zA_call rfl rfl (mo_takeable hM3 hW (by omega) ?_)
      repeat refine zA_step rfl rfl ?_
      refine zA_call rfl rfl (mo_sworeLater hM3 hW hs (bn_lt64 _ w6) (by omega) (by omega) (fun σ5 hF5 => ?_))
      rw [tk_Ev]
      show zA _ _ _ _ (.int (nI (cS (tkn p s k n) s)) :: _) _ _
      have hc6 : cS (tkn p s k n) s ≤ 6 := cS_le
      repeat refine zA_step rfl rfl ?_
      unfold ff at K
      by_cases h : m ≤ cS (tkn p s k n) s
      · refine zA_f (by simp (disch := omega) only [nu_lt, nu_le, nu_eq, nu_cmp_lt, nu_cmp_gt, nu_cmp_ge, nu_cmp_le, nu_wide, Int32.toInt_add, Int32.toInt_sub, Int32.toInt_mul, nu_I, Nat.reducePow, nu_bm, Int32.reduceToInt, Int64.reduceToInt]; omega) ?_
        repeat refine zA_step rfl rfl ?_
        rw [if_pos (show P k = true from decide_eq_true h)] at K
        exact zA_ret rfl (K _ (hF3.tr hF5))
      · refine zA_t (by simp (disch := omega) only [nu_lt, nu_le, nu_eq, nu_cmp_lt, nu_cmp_gt, nu_cmp_ge, nu_cmp_le, nu_wide, Int32.toInt_add, Int32.toInt_sub, Int32.toInt_mul, nu_I, Nat.reducePow, nu_bm, Int32.reduceToInt, Int64.reduceToInt]; omega) ?_
        repeat refine zA_step rfl rfl ?_
        rw [if_neg (show ¬ P k = true from fun z => h (of_decide_eq_true z))] at K
        exact ih (k + 1) (by omega) (by omega) _ (hF3.tr hF5) _ (nI_1 k) K
  exact lpm _ 9 1 (by omega) (by omega) _ zFr.rf 1 rfl (fun σ6 hF6 => ⟨rfl, hR.kp (zK_then (hk4.up rfl) hF6)⟩)
