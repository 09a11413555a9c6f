/-! walks, run -/
theorem cn_t {p : Nat → Bool} {n : Nat} (h : p n = true) : cn p (n + 1) = cn p n + 1 := by rw [cn, if_pos h]
theorem cn_f {p : Nat → Bool} {n : Nat} (h : p n = false) : cn p (n + 1) = cn p n := by rw [cn, h]; simp
set_option maxHeartbeats 4000000 in
set_option maxRecDepth 100000 in
theorem mo_bump {d R s who pn Y : Nat} {σ : zSo} {Q : Option Value → zSo → Prop} {p : paT} (hR : mR R) (hP : PM (σ R) p) (hW : paW p Y) (hY : Y ≤ 2000) (hs : s < ps p) (hwho : who < 64) (hpn : 1 ≤ pn ∧ pn ≤ 9)
    (hQ : ∀ σ', zFr [R] σ σ' → PM (σ' R) (bmK p s who pn (pw p)) → Q (some (.int (nI (cn (bmc p who) (pw p))))) σ') : zC (d + 3) 141 [.ref R, .int (nI s), .int (nI who), .int (nI pn)] σ Q := by
  have ww6 := hW.2.2.2.2.1
  have ws6 := hW.2.2.2.1
  have wy := hW.2.2.1
  have hmr := hR
  have lp : ∀ n k, k + n = pw p → ∀ σk, zFr [R] σ σk → PM (σk R) (bmK p s who pn k) → ∀ (x i : Int32), x = nI (cn (bmc p who) k) → i = nI k →
      zA (d + 3) 141 6 [(0, .ref R), (1, .int (nI s)), (2, .int (nI who)), (3, .int (nI pn)), (4, .int x), (5, .int i)] [] σk Q := by
    intro n
    induction n with
    | zero =>
      intro k hk σk hF hPk x i ex ei
      subst ex ei
      have : k = pw p := by omega
      subst this
      have hlim := hPk.2.2.1
      rw [(bmK_1 p s who pn (pw p)).2.1] at hlim
      rcases hR with rfl | rfl | rfl
      all_goals
        refine zA_s0 rfl ?_
        repeat refine zA_step rfl rfl ?_
        simp only [nu_c3, hlim]
        refine zA_t (Int32.le_refl _) ?_
        repeat refine zA_step rfl rfl ?_
        exact zA_ret rfl (hQ σk hF hPk)
    | succ n ih =>
      intro k hk σk hF hPk x i ex ei
      subst ex ei
      have hkw : k < pw p := by omega
      obtain ⟨-, ⟨wa1, wa2⟩, we, -⟩ := hW.2.2.2.2.2.2.1 k hkw
      have hlim := hPk.2.2.1
      obtain ⟨f1, f2, f3, f4, f5⟩ := bmK_1 p s who pn k
      obtain ⟨g1, g2, g3, g4, g5, g6⟩ := bmK_same p s who pn k
      rw [f2] at hlim
      have h4 := hPk.2.2.2.1
      rw [f3] at h4
      have h5 := hPk.2.2.2.2.1 s (by rw [f1]; exact hs)
      rw [g2] at h5
      have h6 := hPk.2.2.2.2.2.1 k (by rw [f2]; exact hkw)
      rw [g4, g5] at h6
      rcases hR with rfl | rfl | rfl
      all_goals
        refine zA_s0 rfl ?_
        repeat refine zA_step rfl rfl ?_
        simp only [nu_c3, hlim]
        refine zA_f (by simp (disch := omega) only [nu_lt, nu_le, nu_eq, nu_cmp_lt, nu_cmp_gt, nu_cmp_ge, nu_cmp_le, nu_wide, Int32.toInt_add, Int32.toInt_sub, Int32.toInt_mul, nu_I, Nat.reducePow, nu_bm, Int32.reduceToInt, Int64.reduceToInt]; omega) ?_
        repeat refine zA_step rfl rfl ?_
        refine zA_call rfl rfl (mo_has hwho (by omega) (fun hb => ?_) (fun hb => ?_))
        · repeat refine zA_step rfl rfl ?_
          refine zA_call rfl rfl (mo_isTaken hmr (by omega) h6.2.1 h6.2.2.1 (by omega) (by omega) (fun ht => ?_) (fun ht => ?_))
          · have hc : bmc p who k = true := by simp [bmc, tkb, hb, ht]
            repeat refine zA_step rfl rfl ?_
            refine zA_call rfl rfl (mo_known (by omega) (by omega) ?_)
            repeat refine zA_step rfl rfl ?_
            refine zA_ld (j := 5 + s) rfl (nI_add 5 s) (by omega) (by decide) h5 ?_
            refine zA_sto (j := 35 + 3 * (6 * k + s)) rfl rfl (by omega) (by decide) ?_
            repeat refine zA_step rfl rfl ?_
            refine zA_sto (j := 35 + 3 * (6 * k + s) + 1) rfl (nI_add _ _) (by omega) (by decide) ?_
            repeat refine zA_step rfl rfl ?_
            simp only [nu_c4, zup_k, upd]
            rw [if_neg (by omega), if_neg (by omega), h4]
            refine zA_sto (j := 35 + 3 * (6 * k + s) + 2) rfl (nI_add _ _) (by omega) (by decide) ?_
            repeat refine zA_step rfl rfl ?_
            refine zA_dr rfl rfl rfl ?_
            refine ih (k + 1) (by omega) _ (((hF.up (by simp)).up (by simp)).up (by simp)) ?_ _ _ ?_ (nI_1 k)
            · simp only [zup_k]
              have := hPk.put (w := k) (s := s) (pyd p s, pn, py p) (by rw [f1]; exact ws6) (by rw [f2]; exact ww6) (by rw [f1]; exact hs)
              unfold bmK
              rw [if_pos (show (who.testBit k && tkb p k) = true from hc)]
              exact this
            · rw [cn_t hc, ← nI_1]
          · have hc : bmc p who k = false := by
              simp only [bmc, tkb, Bool.and_eq_false_iff, decide_eq_false_iff_not]
              exact Or.inr ht
            repeat refine zA_step rfl rfl ?_
            exact ih (k + 1) (by omega) σk hF (by unfold bmK; rw [if_neg (by rw [show (who.testBit k && tkb p k) = false from hc]; decide)]; exact hPk) _ _ (by rw [cn_f hc]) (nI_1 k)
        · have hc : bmc p who k = false := by simp [bmc, hb]
          repeat refine zA_step rfl rfl ?_
          exact ih (k + 1) (by omega) σk hF (by unfold bmK; rw [if_neg (by rw [show (who.testBit k && tkb p k) = false from hc]; decide)]; exact hPk) _ _ (by rw [cn_f hc]) (nI_1 k)
  show zA (d + 3) _ 0 [(0, .ref R), (1, .int (nI s)), (2, .int (nI who)), (3, .int (nI pn))] [] σ Q
  repeat refine zA_step rfl rfl ?_
  exact lp (pw p) 0 (by omega) σ zFr.rf hP 0 0 rfl rfl
set_option maxHeartbeats 4000000 in
set_option maxRecDepth 100000 in
theorem cl_bump {d P s who pn Y : Nat} {σ : zSo} {Q : Option Value → zSo → Prop} {p : paT} (hP4 : cP P) (hP : PC σ P p) (hW : paW p Y) (hY : Y ≤ 2000) (hs : s < ps p) (hwho : who < 64) (hpn : 1 ≤ pn ∧ pn ≤ 9)
    (hQ : ∀ σ', zFr [P + 6, P + 7, P + 8] σ σ' → PC σ' P (bmK p s who pn (pw p)) → Q (some (.int (nI (cn (bmc p who) (pw p))))) σ') : zC (d + 3) 35 [.ref P, .int (nI s), .int (nI who), .int (nI pn)] σ Q := by
  have ww6 := hW.2.2.2.2.1
  have ws6 := hW.2.2.2.1
  have wy := hW.2.2.1
  have hc0 := hP4
  have lp : ∀ n k, k + n = pw p → ∀ σk, zFr [P + 6, P + 7, P + 8] σ σk → PC σk P (bmK p s who pn k) → ∀ (x i : Int32), x = nI (cn (bmc p who) k) → i = nI k →
      zA (d + 3) 35 6 [(0, .ref P), (1, .int (nI s)), (2, .int (nI who)), (3, .int (nI pn)), (4, .int x), (5, .int i)] [] σk Q := by
    intro n
    induction n with
    | zero =>
      intro k hk σk hF hPk x i ex ei
      subst ex ei
      have : k = pw p := by omega
      subst this
      have hlim := hPk.2.2.1
      rw [(bmK_1 p s who pn (pw p)).2.1] at hlim
      rcases hP4 with rfl | rfl | rfl | rfl
      all_goals
        refine zA_s0 rfl ?_
        repeat refine zA_step rfl rfl ?_
        rw [hlim]
        refine zA_t (Int32.le_refl _) ?_
        repeat refine zA_step rfl rfl ?_
        exact zA_ret rfl (hQ σk hF hPk)
    | succ n ih =>
      intro k hk σk hF hPk x i ex ei
      subst ex ei
      have hkw : k < pw p := by omega
      have hlim := hPk.2.2.1
      obtain ⟨f1, f2, f3, f4, f5⟩ := bmK_1 p s who pn k
      obtain ⟨g1, g2, g3, g4, g5, g6⟩ := bmK_same p s who pn k
      rw [f2] at hlim
      have h4 := hPk.2.2.2.1
      rw [f3] at h4
      have h5 := hPk.2.2.2.2.1 s (by rw [f1]; exact hs)
      rw [g2] at h5
      have hWk := bmK_W (who := who) hW hs hpn.1 hpn.2 k
      have hno : ∀ σk, PC σk P (bmK p s who pn k) → bmc p who k = false → PC σk P (bmK p s who pn (k + 1)) := by
        intro σk hPk hc
        unfold bmK
        rw [if_neg (by rw [show (who.testBit k && tkb p k) = false from hc]; decide)]
        exact hPk
      rcases hP4 with rfl | rfl | rfl | rfl
      all_goals
        refine zA_s0 rfl ?_
        repeat refine zA_step rfl rfl ?_
        rw [hlim]
        refine zA_f (by simp (disch := omega) only [nu_lt, nu_le, nu_eq, nu_cmp_lt, nu_cmp_gt, nu_cmp_ge, nu_cmp_le, nu_wide, Int32.toInt_add, Int32.toInt_sub, Int32.toInt_mul, nu_I, Nat.reducePow, nu_bm, Int32.reduceToInt, Int64.reduceToInt]; omega) ?_
        repeat refine zA_step rfl rfl ?_
        rw [nu_bit who hwho k (by omega)]
        cases hb : who.testBit k with
        | true =>
          repeat refine zA_step rfl rfl ?_
          refine zA_call rfl rfl (cl_isTakable hc0 hPk hWk hY (by rw [f2]; exact hkw) (fun ht => ?_) (fun ht => ?_))
          · rw [g4, g5] at ht
            have hc : bmc p who k = true := by simp [bmc, tkb, hb, ht]
            repeat refine zA_step rfl rfl ?_
            refine zA_call rfl rfl (cl_placeOf (by omega) (by omega) ?_)
            repeat refine zA_step rfl rfl ?_
            refine zA_ld (j := s) rfl rfl (by omega) (by decide) h5 ?_
            refine zA_sto (j := 6 * k + s) rfl rfl (by omega) (by decide) ?_
            repeat refine zA_step rfl rfl ?_
            refine zA_sto (j := 6 * k + s) rfl rfl (by omega) (by decide) ?_
            repeat refine zA_step rfl rfl ?_
            refine zA_sto (j := 6 * k + s) rfl rfl (by omega) (by decide) ?_
            repeat refine zA_step rfl rfl ?_
            refine zA_dr rfl rfl rfl ?_
            refine ih (k + 1) (by omega) _ (((hF.up (by simp)).up (by simp)).up (by simp)) ?_ _ _ ?_ (nI_1 k)
            · unfold bmK
              rw [if_pos (show (who.testBit k && tkb p k) = true from hc)]
              refine hPk.put (pyd p s, pn, py p) (by rw [f1]; exact ws6) (by rw [f2]; exact ww6) (by rw [f2]; exact hkw) (by rw [f1]; exact hs) (fun a ha j => ?_) (fun j => ?_) (fun j => ?_) (fun j => ?_)
              · simp only [zup]
                rw [if_neg (by omega), if_neg (by omega), if_neg (by omega)]
              · simp [zup, upd]
              · simp [zup, upd]
              · simp [zup, upd, h4]
            · rw [cn_t hc, ← nI_1]
          · rw [g4, g5] at ht
            have hc : bmc p who k = false := by
              simp only [bmc, tkb, Bool.and_eq_false_iff, decide_eq_false_iff_not]
              exact Or.inr ht
            repeat refine zA_step rfl rfl ?_
            exact ih (k + 1) (by omega) σk hF (hno σk hPk hc) _ _ (by rw [cn_f hc]) (nI_1 k)
        | false =>
          have hc : bmc p who k = false := by simp [bmc, hb]
          repeat refine zA_step rfl rfl ?_
          exact ih (k + 1) (by omega) σk hF (hno σk hPk hc) _ _ (by rw [cn_f hc]) (nI_1 k)
  show zA (d + 3) _ 0 [(0, .ref P), (1, .int (nI s)), (2, .int (nI who)), (3, .int (nI pn))] [] σ Q
  have l0 := lp (pw p) 0 (by omega) σ zFr.rf hP 0 0 rfl rfl
  repeat refine zA_step rfl rfl ?_
  exact l0
