/-! stood, the pair -/
def Wu (lo u : Int) : Int := if lo ≤ u then u else lo
def StU (lo hi u : Int) (c m : Int32) : Prop := (Wu lo u ≤ hi → c.toInt = hi + 1 - Wu lo u ∧ m.toInt = Wu lo u) ∧ (¬ Wu lo u ≤ hi → c.toInt = 0 ∧ m = NO)
set_option maxHeartbeats 4000000 in
set_option maxRecDepth 100000 in
theorem mo_stood_lp {d r i : Nat} {σ : zSo} {Q : Option Value → zSo → Prop} {p : paT} {Y : Nat} {b : Nat} {lo hi : Int} (hr : r < 8) (hM : PM (σ 74) p) (hW : paW p Y) (hi4 : i + pw p ≤ 40) (hb : b < 2) (hf : FI p (fun k => σ 73 (40 * r + (i + k))) (pw p) lo hi)
    (hQ : ∀ c m : Int32, StU lo hi 0 c m → Q (some (.int (if b = 0 then c else m))) σ) :
    ∀ u : Nat, u ≤ 100 → ∀ c m : Int32, StU lo hi u c m → ∀ y : Int32, y.toInt = (u : Int) - 1 → zA (d + 5) 168 97 [(0, .ref 70), (1, .int (nI r)), (2, .int (nI i)), (3, .int (nI b)), (4, .int c), (5, .int m), (6, .int y)] [] σ Q := by
  intro u
  induction u with
  | zero =>
    intro hu c m hs y hy
    refine zA_s0 rfl ?_
    refine zA_s0 rfl ?_
    refine zA_t (by rw [nu_lt, hy]; decide) ?_
    rcases (show b = 0 ∨ b = 1 by omega) with rfl | rfl
    · repeat refine zA_step rfl rfl ?_
      exact zA_ret rfl (hQ c m hs)
    · repeat refine zA_step rfl rfl ?_
      exact zA_ret rfl (hQ c m hs)
  | succ u ih =>
    intro hu c m hs y hy
    refine zA_s0 rfl ?_
    refine zA_s0 rfl ?_
    refine zA_f (by rw [nu_lt, hy]; simp only [Int32.reduceToInt]; omega) ?_
    repeat refine zA_step rfl rfl ?_
    refine mo_stood_in hr hM hW hi4 (fun fl hfl => ?_) (pw p) 0 (by omega) true (by simp [FT]) 0 rfl
    have hy' : y.toInt = (u : Int) := by rw [hy]; omega
    have key : fl = true ↔ (lo ≤ u ∧ (u : Int) ≤ hi) := by
      rw [hfl, hy', hf.2.2 u]
      exact ⟨fun z => ⟨by omega, z⟩, fun z => z.2⟩
    have e1 : (y + -1).toInt = (u : Int) - 1 := by
      rw [nu_add (by rw [hy']; simp only [Int32.reduceToInt]; omega) (by rw [hy']; simp only [Int32.reduceToInt]; omega), hy']
      rfl
    obtain ⟨s1, s2⟩ := hs
    cases fl with
    | true =>
      have k := key.mp rfl
      repeat refine zA_step rfl rfl ?_
      refine zA_dr rfl rfl rfl ?_
      refine ih (by omega) _ _ ?_ _ e1
      have hc0 : c.toInt = hi - u := by
        by_cases z : Wu lo ((u + 1 : Nat) : Int) ≤ hi
        · rw [(s1 z).1]
          unfold Wu
          rw [if_pos (by omega)]
          omega
        · rw [(s2 z).1]
          unfold Wu at z
          rw [if_pos (by omega)] at z
          omega
      have hhi : hi ≤ 99 := by
        have := (hf.2.2 hi).mp ⟨by omega, Int.le_refl _⟩
        omega
      have hc1 : (c + 1).toInt = hi - u + 1 := by
        rw [nu_add (by rw [hc0]; simp only [Int32.reduceToInt]; omega) (by rw [hc0]; simp only [Int32.reduceToInt]; omega), hc0]
        rfl
      refine ⟨fun _ => ?_, fun z => ?_⟩
      · unfold Wu
        rw [if_pos k.1]
        exact ⟨by rw [hc1]; omega, hy'⟩
      · unfold Wu at z
        rw [if_pos k.1] at z
        exact absurd k.2 z
    | false =>
      have k : ¬ (lo ≤ u ∧ (u : Int) ≤ hi) := fun z => by have := key.mpr z; cases this
      repeat refine zA_step rfl rfl ?_
      refine zA_dr rfl rfl rfl ?_
      rw [Int32.add_zero]
      refine ih (by omega) c m ?_ _ e1
      have hw : (Wu lo ((u + 1 : Nat) : Int) ≤ hi ↔ Wu lo u ≤ hi) ∧ (Wu lo u ≤ hi → Wu lo ((u + 1 : Nat) : Int) = Wu lo u) := by
        unfold Wu
        split <;> split <;> omega
      refine ⟨fun z => ?_, fun z => s2 (fun z' => z (hw.1.mp z'))⟩
      have := s1 (hw.1.mpr z)
      rw [hw.2 z] at this
      exact this
set_option maxHeartbeats 4000000 in
set_option maxRecDepth 100000 in
theorem pr_stood {d : Nat} {σ : zSo} (x y z : Int32) (hR : R σ) : zPair (d + 20) 80 168 [.int x, .int y, .int z] σ := by
  obtain ⟨hrows, -, -, -, ⟨p, ⟨hW, hC, hM, hT, -⟩, -⟩, -⟩ := id hR
  have ws6 := hW.2.2.2.1
  have w6 := hW.2.2.2.2.1
  have hk : zK σ (zup σ 70 0 0) := zK.rf.up rfl
  have hM' : PM (zup σ 70 0 0 74) p := hM
  show zA (d + 20) _ 0 [(0, .ref 0), (1, .int x), (2, .int y), (3, .int z)] [] σ _
  repeat refine zA_step rfl rfl ?_
  by_cases h0 : 0 < ps p
  rotate_left
  · rw [hT, if_neg h0]
    repeat refine zA_step rfl rfl ?_
    refine zA_ret rfl ⟨_, rfl, ?_⟩
    show zA (d + 20) _ 0 [(0, .ref 70), (1, .int x), (2, .int y), (3, .int z)] [] σ _
    repeat refine zA_step rfl rfl ?_
    refine zA_call rfl rfl (mo_isThere (p := p) hM ws6 (fun h => absurd h h0) (fun h => ?_))
    repeat refine zA_step rfl rfl ?_
    exact zA_ret rfl ⟨rfl, hR.kp (zK.rf.up rfl)⟩
  have hT1 : σ 20 0 = 1 := by rw [hT, if_pos h0]
  rw [hT1]
  have bad : ¬ ((0 ≤ x.toInt ∧ x.toInt ≤ 7) ∧ (0 ≤ z.toInt ∧ z.toInt ≤ 1)) → zC (d + 20) 168 [.ref 70, .int x, .int y, .int z] σ (fun r2 σ2 => r2 = some (.int (-1000001)) ∧ R σ2 ∧ ∀ k, 1000 ≤ k → σ2 k = σ k) := by
    intro hn
    show zA (d + 20) _ 0 [(0, .ref 70), (1, .int x), (2, .int y), (3, .int z)] [] σ _
    repeat refine zA_step rfl rfl ?_
    refine zA_call rfl rfl (mo_isThere hM' ws6 (fun h => ?_) (fun h => by omega))
    repeat refine zA_step rfl rfl ?_
    refine zA_call rfl rfl (mo_isRow (fun r hr e => ?_) (fun h => ?_))
    rotate_left
    · repeat refine zA_step rfl rfl ?_
      exact zA_ret rfl ⟨rfl, hR.kp hk⟩
    subst e
    repeat refine zA_step rfl rfl ?_
    refine zA_call rfl rfl (mo_inI 0 1 (by decide) (by decide) (fun z1 z2 => ?_) (fun z => ?_))
    · rw [nu_I (by omega)] at hn
      exact absurd ⟨⟨by omega, by omega⟩, ⟨z1, z2⟩⟩ hn
    · repeat refine zA_step rfl rfl ?_
      exact zA_ret rfl ⟨rfl, hR.kp hk⟩
  repeat refine zA_step rfl rfl ?_
  refine zA_call rfl rfl (cl_isRow (fun h1 h2 => ?_) (fun h => ?_))
  rotate_left
  · repeat refine zA_step rfl rfl ?_
    exact zA_ret rfl ⟨_, rfl, bad (fun z => h z.1)⟩
  obtain ⟨r, hr, e⟩ := nu_of (n := 8) (x := x) h1 (by omega)
  subst e
  repeat refine zA_step rfl rfl ?_
  refine zA_call rfl rfl (cl_isEither (fun b hb e => ?_) (fun h => ?_))
  rotate_left
  · repeat refine zA_step rfl rfl ?_
    exact zA_ret rfl ⟨_, rfl, bad (fun z => h z.2)⟩
  subst e
  have tomod : ∀ (σ1 : zSo), σ1 74 = σ 74 → ∀ (Q : Option Value → zSo → Prop), zA (d + 20) 168 35 [(0, .ref 70), (1, .int (nI r)), (2, .int y), (3, .int (nI b))] [] (zup σ1 70 0 0) Q → zC (d + 20) 168 [.ref 70, .int (nI r), .int y, .int (nI b)] σ1 Q := by
    intro σ1 hs Q K
    have hM1 : PM (zup σ1 70 0 0 74) p := by
      show PM (σ1 74) p
      rw [hs]; exact hM
    show zA (d + 20) _ 0 [(0, .ref 70), (1, .int (nI r)), (2, .int y), (3, .int (nI b))] [] σ1 _
    repeat refine zA_step rfl rfl ?_
    refine zA_call rfl rfl (mo_isThere hM1 ws6 (fun h => ?_) (fun h => by omega))
    repeat refine zA_step rfl rfl ?_
    refine zA_call rfl rfl (mo_row_in (jm := 0) (pcg := 0) (pcb := 0) hr ?_)
    repeat refine zA_step rfl rfl ?_
    refine zA_call rfl rfl (mo_inI 0 1 (by decide) (by decide) (fun z1 z2 => ?_) (fun z => absurd ⟨by rw [nu_I (by omega)]; omega, by rw [nu_I (by omega)]; omega⟩ z))
    refine zA_s0 rfl ?_
    exact K
  rcases hrows r hr with ⟨t0, m0⟩ | ⟨l, n, hl, hn, t1, t2, t3, m1, m2, m3⟩
  · have fin : zC (d + 20) 168 [.ref 70, .int (nI r), .int y, .int (nI b)] (zup σ 0 8 1) (fun r2 σ2 => r2 = some (.int (-1000011)) ∧ R σ2 ∧ ∀ k, 1000 ≤ k → σ2 k = σ k) := by
      refine tomod (zup σ 0 8 1) rfl _ ?_
      repeat refine zA_step rfl rfl ?_
      refine zA_ld (j := r) rfl rfl (by omega) (by decide) m0 ?_
      repeat refine zA_step rfl rfl ?_
      refine zA_call rfl rfl (mo_finding ?_)
      exact zA_ret rfl ⟨rfl, hR.st (((zKg.rf.up rfl).up rfl).up rfl) rfl⟩
    rcases nu_row8 hr with rfl | rfl | rfl | rfl | rfl | rfl | rfl | rfl
    all_goals
      repeat refine zA_step rfl rfl ?_
      refine zA_t t0 ?_
      repeat refine zA_step rfl rfl ?_
      refine zA_call rfl rfl (cl_finding ?_)
      exact zA_ret rfl ⟨_, rfl, fin⟩
  · have hno : ¬ (σ (2 + 2 * r) 1 = 0) := by rw [t1]; decide
    have fin2 : ¬ (0 ≤ y.toInt ∧ y.toInt + pw p ≤ n) → zC (d + 20) 168 [.ref 70, .int (nI r), .int y, .int (nI b)] (zup σ 0 8 2) (fun r2 σ2 => r2 = some (.int (-1000012)) ∧ R σ2 ∧ ∀ k, 1000 ≤ k → σ2 k = σ k) := by
      intro hb
      refine tomod (zup σ 0 8 2) rfl _ ?_
      repeat refine zA_step rfl rfl ?_
      refine zA_ld (j := r) rfl rfl (by omega) (by decide) m1 ?_
      repeat refine zA_step rfl rfl ?_
      refine zA_t (by simp (disch := omega) only [nu_lt, nu_le, nu_eq, nu_cmp_lt, nu_cmp_gt, nu_cmp_ge, nu_cmp_le, nu_wide, Int32.toInt_add, Int32.toInt_sub, Int32.toInt_mul, nu_I, Nat.reducePow, nu_bm, Int32.reduceToInt, Int64.reduceToInt]; omega) ?_
      repeat refine zA_step rfl rfl ?_
      have go : zA (d + 20) 168 77 [(0, .ref 70), (1, .int (nI r)), (2, .int y), (3, .int (nI b))] [.int 2, .ref 70] (zup (zup σ 0 8 2) 70 0 0) (fun r2 σ2 => r2 = some (.int (-1000012)) ∧ R σ2 ∧ ∀ k, 1000 ≤ k → σ2 k = σ k) := by
        refine zA_call rfl rfl (mo_finding ?_)
        exact zA_ret rfl ⟨rfl, hR.st (((zKg.rf.up rfl).up rfl).up rfl) rfl⟩
      refine zA_c (fun c => ?_) (fun c => ?_)
      · repeat refine zA_step rfl rfl ?_
        exact go
      simp only [nu_lt, Int32.reduceToInt] at c
      repeat refine zA_step rfl rfl ?_
      simp only [nu_c3, show zup (zup σ 0 8 2) 70 0 0 74 3 = nI (pw p) from hM.2.2.1]
      refine zA_ld (j := r) rfl rfl (by omega) (by decide) m2 ?_
      repeat refine zA_step rfl rfl ?_
      refine zA_f ?_ ?_
      · rw [nu_cmp_le, nu_ladd, nu_wide, nu_I (by omega), nu_I (by omega)]
        omega
      repeat refine zA_step rfl rfl ?_
      exact go
    have fin3 : ∀ i, y = nI i → i + pw p ≤ n → ∀ lo hi : Int, FI p (fun k => σ 73 (40 * r + (i + k))) (pw p) lo hi → ∀ a : Int32, (∀ c m : Int32, StU lo hi 0 c m → (if b = 0 then c else m) = a) → zC (d + 20) 168 [.ref 70, .int (nI r), .int y, .int (nI b)] (zup σ 0 8 0) (fun r2 σ2 => r2 = some (.int a) ∧ R σ2 ∧ ∀ k, 1000 ≤ k → σ2 k = σ k) := by
      intro i ei hin lo hi hf a ha
      refine tomod (zup σ 0 8 0) rfl _ ?_
      subst ei
      repeat refine zA_step rfl rfl ?_
      refine zA_ld (j := r) rfl rfl (by omega) (by decide) m1 ?_
      repeat refine zA_step rfl rfl ?_
      refine zA_t (by simp (disch := omega) only [nu_lt, nu_le, nu_eq, nu_cmp_lt, nu_cmp_gt, nu_cmp_ge, nu_cmp_le, nu_wide, Int32.toInt_add, Int32.toInt_sub, Int32.toInt_mul, nu_I, Nat.reducePow, nu_bm, Int32.reduceToInt, Int64.reduceToInt]; omega) ?_
      repeat refine zA_step rfl rfl ?_
      refine zA_f (by simp (disch := omega) only [nu_lt, nu_le, nu_eq, nu_cmp_lt, nu_cmp_gt, nu_cmp_ge, nu_cmp_le, nu_wide, Int32.toInt_add, Int32.toInt_sub, Int32.toInt_mul, nu_I, Nat.reducePow, nu_bm, Int32.reduceToInt, Int64.reduceToInt]; omega) ?_
      repeat refine zA_step rfl rfl ?_
      simp only [nu_c3, show zup (zup σ 0 8 0) 70 0 0 74 3 = nI (pw p) from hM.2.2.1]
      refine zA_ld (j := r) rfl rfl (by omega) (by decide) m2 ?_
      repeat refine zA_step rfl rfl ?_
      refine zA_t ?_ ?_
      · rw [nu_cmp_le, nu_ladd, nu_wide, nu_I (by omega), nu_I (by omega), nu_I (by omega)]
        omega
      repeat refine zA_step rfl rfl ?_
      have hM9 : PM (zup (zup (zup σ 0 8 0) 70 0 0) 70 1 0 74) p := hM
      have hf9 : FI p (fun k => zup (zup (zup σ 0 8 0) 70 0 0) 70 1 0 73 (40 * r + (i + k))) (pw p) lo hi := hf
      refine mo_stood_lp (d := d + 15) hr (lo := lo) (hi := hi) hM9 hW (by omega) hb hf9 (fun c m hs => ⟨by rw [ha c m hs], hR.st ((((zKg.rf.up rfl).up rfl).up rfl)) rfl⟩) 100 (by omega) 0 NO ?_ 99 rfl
      refine ⟨fun z => ?_, fun _ => ⟨rfl, rfl⟩⟩
      have h9 : lo ≤ hi → hi ≤ 99 := fun h => ((hf.2.2 hi).mp ⟨h, Int.le_refl _⟩).1.2
      exfalso
      unfold Wu at z
      split at z <;> omega
    rcases nu_row8 hr with rfl | rfl | rfl | rfl | rfl | rfl | rfl | rfl
    all_goals
      repeat refine zA_step rfl rfl ?_
      refine zA_f hno ?_
      repeat refine zA_step rfl rfl ?_
      rw [hC.2.2.1]
      refine zA_call rfl rfl (cl_holds hr hn t3 (fun z1 z2 z3 => ?_) (fun z => ?_))
      rotate_left
      · repeat refine zA_step rfl rfl ?_
        refine zA_call rfl rfl (cl_finding ?_)
        rw [nu_I (by omega)] at z
        exact zA_ret rfl ⟨_, rfl, fin2 (by omega)⟩
      rw [nu_I (by omega)] at z3
      obtain ⟨i, hi, e⟩ := nu_of (n := n + 1) (x := y) (by omega) (by omega)
      rw [e, nu_I (by omega)] at z3
      rw [e]
      rw [e] at fin3
      repeat refine zA_step rfl rfl ?_
      refine zA_dr rfl rfl rfl ?_
      refine cl_stood_lp hr hC hW (by omega) (fun lo hi hf => ?_) (pw p) 0 (by omega) 0 99 ?_ 0 rfl
      rotate_left
      · refine ⟨by decide, by decide, fun y => ⟨fun z => ⟨z, fun w hw => by omega⟩, fun z => z.1⟩⟩
      have fin4 := fin3 i rfl (by omega) lo.toInt hi.toInt ⟨hf.1, hf.2.1, fun y => (hf.2.2 y).trans ⟨fun z => ⟨z.1, fun w hw => by
          have := z.2 w hw
          simp only [m3 (i + w) (by omega)] at this; exact this⟩, fun z => ⟨z.1, fun w hw => by
          simp only [m3 (i + w) (by omega)]; exact z.2 w hw⟩⟩⟩
      repeat refine zA_step rfl rfl ?_
      by_cases hlh : lo.toInt ≤ hi.toInt
      · have hlo := ((hf.2.2 lo.toInt).mp ⟨Int.le_refl _, hlh⟩).1
        have hhi := ((hf.2.2 hi.toInt).mp ⟨hlh, Int.le_refl _⟩).1
        have hWu : Wu lo.toInt 0 = lo.toInt := by unfold Wu; split <;> omega
        refine zA_t (by rw [nu_cmp_le]; exact hlh) ?_
        rcases (show b = 0 ∨ b = 1 by omega) with rfl | rfl
        · repeat refine zA_step rfl rfl ?_
          refine zA_call rfl rfl (cl_fine ?_)
          refine zA_ret rfl ⟨_, rfl, fin4 _ (fun c m hs => ?_)⟩
          rw [if_pos rfl, nu_eq, (hs.1 (by rw [hWu]; exact hlh)).1, hWu, Int64.toInt_toInt32]
          have e1 := lg_sub (l := hi) (m := lo) (by omega) (by omega)
          have e2 := lg_add (l := hi - lo) (m := 1) (by rw [e1, show (1 : Int64).toInt = 1 from rfl]; omega) (by rw [e1, show (1 : Int64).toInt = 1 from rfl]; omega)
          rw [e2, e1, show (1 : Int64).toInt = 1 from rfl, nu_bm (by omega) (by omega)]
          omega
        · repeat refine zA_step rfl rfl ?_
          refine zA_call rfl rfl (cl_fine ?_)
          refine zA_ret rfl ⟨_, rfl, fin4 _ (fun c m hs => ?_)⟩
          rw [if_neg (by omega), nu_eq, (hs.1 (by rw [hWu]; exact hlh)).2, hWu, Int64.toInt_toInt32, nu_bm (by omega) (by omega)]
      · have hWu : ¬ Wu lo.toInt 0 ≤ hi.toInt := by unfold Wu; split <;> omega
        refine zA_f (by rw [nu_cmp_le]; exact hlh) ?_
        rcases (show b = 0 ∨ b = 1 by omega) with rfl | rfl
        · repeat refine zA_step rfl rfl ?_
          refine zA_call rfl rfl (cl_fine ?_)
          refine zA_ret rfl ⟨_, rfl, fin4 _ (fun c m hs => ?_)⟩
          rw [if_pos rfl, nu_eq, (hs.2 hWu).1]
          rfl
        · repeat refine zA_step rfl rfl ?_
          refine zA_call rfl rfl (cl_fine ?_)
          refine zA_ret rfl ⟨_, rfl, fin4 _ (fun c m hs => ?_)⟩
          rw [if_neg (by omega), (hs.2 hWu).2]
          rfl
