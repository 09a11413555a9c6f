/-! stood -/
def kq (p : paT) (w : Nat) : Int := if pk p w = 3 then 12 else 3
def FT (p : paT) (f : Nat → Int32) (k : Nat) (y : Int) : Prop := ∀ w, w < k → (f w).toInt = -1 ∨ (-3 ≤ (f w).toInt - y ∧ (f w).toInt - y ≤ kq p w)
def FI (p : paT) (f : Nat → Int32) (k : Nat) (a b : Int) : Prop := (-3000000000 ≤ a ∧ a ≤ 3000000000) ∧ (-3000000000 ≤ b ∧ b ≤ 3000000000) ∧ ∀ y, (a ≤ y ∧ y ≤ b) ↔ ((0 ≤ y ∧ y ≤ 99) ∧ FT p f k y)
theorem FI.skip {p : paT} {f : Nat → Int32} {k : Nat} {a b : Int} (h : FI p f k a b) (e : (f k).toInt = -1) : FI p f (k + 1) a b := by
  refine ⟨h.1, h.2.1, fun y => (h.2.2 y).trans ⟨fun z => ⟨z.1, fun w hw => ?_⟩, fun z => ⟨z.1, fun w hw => z.2 w (by omega)⟩⟩⟩
  by_cases ew : w = k
  · rw [ew]; exact Or.inl e
  · exact z.2 w (by omega)
theorem FI.cut {p : paT} {f : Nat → Int32} {k : Nat} {a b a' b' : Int} (h : FI p f k a b) (e : ¬ (f k).toInt = -1) (ha : a' = if a < (f k).toInt - kq p k then (f k).toInt - kq p k else a) (hb : b' = if (f k).toInt + 3 < b then (f k).toInt + 3 else b) : FI p f (k + 1) a' b' := by
  have h0 := nu_rng (f k)
  have hk : kq p k = 12 ∨ kq p k = 3 := by unfold kq; split <;> simp
  obtain ⟨h1, h2, h3⟩ := h
  refine ⟨by rw [ha]; split <;> omega, by rw [hb]; split <;> omega, fun y => ?_⟩
  have h3y := h3 y
  constructor
  · intro z
    have hh : (a ≤ y ∧ y ≤ b) ∧ (f k).toInt - kq p k ≤ y ∧ y ≤ (f k).toInt + 3 := by
      rw [ha, hb] at z
      split at z <;> split at z <;> omega
    have := h3y.mp hh.1
    refine ⟨this.1, fun w hw => ?_⟩
    by_cases ew : w = k
    · rw [ew]; exact Or.inr (by omega)
    · exact this.2 w (by omega)
  · intro z
    have h4 := h3y.mpr ⟨z.1, fun w hw => z.2 w (by omega)⟩
    have h5 := z.2 k (by omega)
    rw [ha, hb]
    split <;> split <;> omega
theorem lg_sub {l m : Int64} (h1 : -9223372036854775808 ≤ l.toInt - m.toInt) (h2 : l.toInt - m.toInt < 9223372036854775808) : (l - m).toInt = l.toInt - m.toInt := by
  rw [Int64.toInt_sub]; exact nu_bmL h1 h2
theorem lg_add {l m : Int64} (h1 : -9223372036854775808 ≤ l.toInt + m.toInt) (h2 : l.toInt + m.toInt < 9223372036854775808) : (l + m).toInt = l.toInt + m.toInt := by
  rw [Int64.toInt_add]; exact nu_bmL h1 h2
theorem lg_max {x y : Int64} : (if x < y then y else x).toInt = if x.toInt < y.toInt then y.toInt else x.toInt := by
  rw [apply_ite Int64.toInt]
  simp only [nu_llt]
theorem lg_min {x y : Int64} : (if y < x then y else x).toInt = if y.toInt < x.toInt then y.toInt else x.toInt := by
  rw [apply_ite Int64.toInt]
  simp only [nu_llt]
theorem lg_vs {v : Int32} {c : Int64} {z : Int} (hc : c.toInt = z) (h0 : 0 ≤ z ∧ z ≤ 100) : (v.toInt64 - c).toInt = v.toInt - z ∧ (v.toInt64 + c).toInt = v.toInt + z := by
  have := nu_rng v
  exact ⟨by rw [lg_sub (by rw [nu_wide, hc]; omega) (by rw [nu_wide, hc]; omega), nu_wide, hc], by rw [lg_add (by rw [nu_wide, hc]; omega) (by rw [nu_wide, hc]; omega), nu_wide, hc]⟩
set_option maxHeartbeats 4000000 in
set_option maxRecDepth 100000 in
theorem cl_stood_lp {d r i : Nat} {σ : zSo} {Q : Option Value → zSo → Prop} {p : paT} {Y : Nat} {b3 : Int32} (hr : r < 8) (hC : PC σ 20 p) (hW : paW p Y) (hi : i + pw p ≤ 40)
    (hQ : ∀ lo hi : Int64, FI p (fun k => σ (2 + 1 + 2 * r) (i + k)) (pw p) lo.toInt hi.toInt → zA (d + 5) 80 173 [(0, .ref 0), (2, .int (nI i)), (3, .int b3), (4, .ref (2 + 2 * r)), (5, .long lo), (7, .long hi), (9, .int (nI (pw p)))] [] σ Q) :
    ∀ n k, k + n = pw p → ∀ lo hi : Int64, FI p (fun k => σ (2 + 1 + 2 * r) (i + k)) k lo.toInt hi.toInt → ∀ ii : Int32, ii = nI k → zA (d + 5) 80 85 [(0, .ref 0), (2, .int (nI i)), (3, .int b3), (4, .ref (2 + 2 * r)), (5, .long lo), (7, .long hi), (9, .int ii)] [] σ Q := by
  have w6 := hW.2.2.2.2.1
  intro n
  induction n with
  | zero =>
    intro k hk lo hi hf ii ei
    subst ei
    have : k = pw p := by omega
    subst this
    refine zA_s0 rfl ?_
    refine zA_s0 rfl ?_
    refine zA_s0 rfl ?_
    refine zA_s0 rfl ?_
    rw [hC.2.2.1]
    refine zA_s0 rfl ?_
    refine zA_t (Int32.le_refl _) ?_
    exact hQ lo hi hf
  | succ n ih =>
    intro k hk lo hi hf ii ei
    subst ei
    have hkd := hC.2.2.2.2.2.1 k (by omega)
    have hpk := (hW.2.2.2.2.2.2.1 k (by omega)).1
    have ek : nI i + nI k = nI (i + k) := nI_add _ _
    have hv0 := nu_rng (σ (2 + 1 + 2 * r) (i + k))
    obtain ⟨f1, f2, f3⟩ := id hf
    generalize hv : σ (2 + 1 + 2 * r) (i + k) = v at hv0
    have cut : ∀ (lo' hi' : Int64), ¬ v.toInt = -1 → lo'.toInt = (if lo.toInt < v.toInt - kq p k then v.toInt - kq p k else lo.toInt) → hi'.toInt = (if v.toInt + 3 < hi.toInt then v.toInt + 3 else hi.toInt) → zA (d + 5) 80 85 [(0, .ref 0), (2, .int (nI i)), (3, .int b3), (4, .ref (2 + 2 * r)), (5, .long lo'), (7, .long hi'), (9, .int (nI k + 1))] [] σ Q := fun lo' hi' e1 e2 e3 => ih (k + 1) (by omega) lo' hi' (hf.cut (by simp only [hv]; exact e1) (by simp only [hv]; exact e2) (by simp only [hv]; exact e3)) _ (nI_1 k)
    have skip : v.toInt = -1 → zA (d + 5) 80 85 [(0, .ref 0), (2, .int (nI i)), (3, .int b3), (4, .ref (2 + 2 * r)), (5, .long lo), (7, .long hi), (9, .int (nI k + 1))] [] σ Q := fun e => ih (k + 1) (by omega) lo hi (hf.skip (by simp only [hv]; exact e)) _ (nI_1 k)
    rcases nu_row8 hr with rfl | rfl | rfl | rfl | rfl | rfl | rfl | rfl
    all_goals
      refine zA_s0 rfl ?_
      repeat refine zA_step rfl rfl ?_
      rw [hC.2.2.1]
      refine zA_f (by simp (disch := omega) only [nu_lt, nu_le, nu_eq, nu_cmp_lt, nu_cmp_gt, nu_cmp_ge, nu_cmp_le, nu_wide, Int32.toInt_add, Int32.toInt_sub, Int32.toInt_mul, nu_I, Nat.reducePow, nu_bm, Int32.reduceToInt, Int64.reduceToInt]; omega) ?_
      repeat refine zA_step rfl rfl ?_
      refine zA_ld (j := i + k) rfl ek (by omega) (by decide) hv ?_
      repeat refine zA_step rfl rfl ?_
      by_cases e : v.toInt = -1
      · refine zA_t (by rw [nu_cmp_eq, nu_leq, nu_wide, e]; rfl) ?_
        repeat refine zA_step rfl rfl ?_
        refine zA_dr rfl rfl rfl ?_
        exact skip e
      · refine zA_f (by rw [nu_cmp_eq, nu_leq, nu_wide]; exact e) ?_
        repeat refine zA_step rfl rfl ?_
        refine zA_ld (j := k) rfl rfl (by omega) (by decide) hkd.1 ?_
        repeat refine zA_step rfl rfl ?_
        by_cases e3 : pk p k = 3
        · rw [e3]
          repeat refine zA_step rfl rfl ?_
          refine zA_dr rfl rfl rfl ?_
          refine cut _ _ e ?_ ?_
          · rw [lg_max, (lg_vs (z := 12) rfl (by omega)).1, show kq p k = 12 from if_pos e3]
            split <;> split <;> omega
          · rw [lg_min, (lg_vs (z := 3) rfl (by omega)).2]
        · refine zA_f (by rw [show (3 : Int32) = nI 3 from rfl, nI_eq (by omega) (by omega)]; exact e3) ?_
          repeat refine zA_step rfl rfl ?_
          refine zA_dr rfl rfl rfl ?_
          refine cut _ _ e ?_ ?_
          · rw [lg_max, (lg_vs (z := 3) rfl (by omega)).1, show kq p k = 3 from if_neg e3]
            split <;> split <;> omega
          · rw [lg_min, (lg_vs (z := 3) rfl (by omega)).2]
set_option maxHeartbeats 4000000 in
set_option maxRecDepth 100000 in
theorem mo_stood_in {d r i : Nat} {σ : zSo} {Q : Option Value → zSo → Prop} {p : paT} {Y : Nat} {b3 c m : Int32} {y : Int32} (hr : r < 8) (hM : PM (σ 74) p) (hW : paW p Y) (hi : i + pw p ≤ 40)
    (hQ : ∀ fl : Bool, (fl = true ↔ FT p (fun k => σ 73 (40 * r + (i + k))) (pw p) y.toInt) → zA (d + 5) 168 198 [(0, .ref 70), (1, .int (nI r)), (2, .int (nI i)), (3, .int b3), (4, .int c), (5, .int m), (6, .int y), (7, .int (nI fl.toNat)), (8, .int (nI (pw p)))] [] σ Q) :
    ∀ n k, k + n = pw p → ∀ fl : Bool, (fl = true ↔ FT p (fun k => σ 73 (40 * r + (i + k))) k y.toInt) → ∀ ii : Int32, ii = nI k → zA (d + 5) 168 108 [(0, .ref 70), (1, .int (nI r)), (2, .int (nI i)), (3, .int b3), (4, .int c), (5, .int m), (6, .int y), (7, .int (nI fl.toNat)), (8, .int ii)] [] σ Q := by
  have w6 := hW.2.2.2.2.1
  intro n
  induction n with
  | zero =>
    intro k hk fl hf ii ei
    subst ei
    have : k = pw p := by omega
    subst this
    refine zA_s0 rfl ?_
    refine zA_s0 rfl ?_
    refine zA_s0 rfl ?_
    refine zA_s0 rfl ?_
    refine zA_s0 rfl ?_
    refine zA_s0 rfl ?_
    simp only [nu_c3, hM.2.2.1]
    refine zA_t (Int32.le_refl _) ?_
    exact hQ fl hf
  | succ n ih =>
    intro k hk fl hf ii ei
    subst ei
    have hkd := hM.2.2.2.2.2.1 k (by omega)
    have hpk := (hW.2.2.2.2.2.2.1 k (by omega)).1
    have ek : (40 : Int32) * nI r + nI i + nI k = nI (40 * r + (i + k)) := (by rw [nu_eq]; simp (disch := omega) only [Int32.toInt_add, Int32.toInt_sub, Int32.toInt_mul, nu_I, Nat.reducePow, nu_bm, Int32.reduceToInt, Int64.reduceToInt]; omega)
    generalize hv : σ 73 (40 * r + (i + k)) = v
    have hv0 := nu_rng v
    have hy0 := nu_rng y
    have hvy : (v.toInt64 - y.toInt64).toInt = v.toInt - y.toInt := by
      rw [lg_sub (by rw [nu_wide, nu_wide]; omega) (by rw [nu_wide, nu_wide]; omega), nu_wide, nu_wide]
    have nxt : ∀ fl' : Bool, (fl' = true ↔ (fl = true ∧ (v.toInt = -1 ∨ (-3 ≤ v.toInt - y.toInt ∧ v.toInt - y.toInt ≤ kq p k)))) → zA (d + 5) 168 108 [(0, .ref 70), (1, .int (nI r)), (2, .int (nI i)), (3, .int b3), (4, .int c), (5, .int m), (6, .int y), (7, .int (nI fl'.toNat)), (8, .int (nI k + 1))] [] σ Q := by
      intro fl' h
      refine ih (k + 1) (by omega) fl' (h.trans ?_) _ (nI_1 k)
      rw [hf]
      constructor
      · rintro ⟨h1, h2⟩ w hw
        by_cases ew : w = k
        · subst ew; simp only [hv]; exact h2
        · exact h1 w (by omega)
      · intro h1
        have h2 := h1 k (by omega)
        simp only [hv] at h2
        exact ⟨fun w hw => h1 w (by omega), h2⟩
    refine zA_s0 rfl ?_
    repeat refine zA_step rfl rfl ?_
    simp only [nu_c3, hM.2.2.1]
    refine zA_f (by simp (disch := omega) only [nu_lt, nu_le, nu_eq, nu_cmp_lt, nu_cmp_gt, nu_cmp_ge, nu_cmp_le, nu_wide, Int32.toInt_add, Int32.toInt_sub, Int32.toInt_mul, nu_I, Nat.reducePow, nu_bm, Int32.reduceToInt, Int64.reduceToInt]; omega) ?_
    repeat refine zA_step rfl rfl ?_
    refine zA_ld (j := 40 * r + (i + k)) rfl ek (by omega) (by decide) hv ?_
    repeat refine zA_step rfl rfl ?_
    cases fl with
    | false =>
      repeat refine zA_step rfl rfl ?_
      refine zA_dr rfl rfl rfl ?_
      exact nxt false (by simp)
    | true =>
      repeat refine zA_step rfl rfl ?_
      by_cases e : v.toInt = -1
      · refine zA_t (by rw [nu_eq, e]; rfl) ?_
        repeat refine zA_step rfl rfl ?_
        refine zA_dr rfl rfl rfl ?_
        exact nxt true (by simp [e])
      · refine zA_f (by rw [nu_eq]; exact e) ?_
        repeat refine zA_step rfl rfl ?_
        refine zA_call rfl rfl (mo_of (k := 0) (Or.inl rfl) (by omega) (by omega) hkd.1 ?_)
        by_cases e3 : pk p k = 3
        · rw [e3]
          have ekq : kq p k = 12 := if_pos e3
          rw [ekq] at nxt
          repeat refine zA_step rfl rfl ?_
          refine zA_call rfl rfl (mo_in (fun h1 h2 => ?_) (fun h => ?_))
          · rw [hvy] at h1 h2
            repeat refine zA_step rfl rfl ?_
            refine zA_dr rfl rfl rfl ?_
            exact nxt true (by simp only [true_and, true_iff]; exact Or.inr ⟨h1, h2⟩)
          · rw [hvy] at h
            repeat refine zA_step rfl rfl ?_
            refine zA_dr rfl rfl rfl ?_
            exact nxt false (by simp only [Bool.false_eq_true, true_and, false_iff, not_or]; exact ⟨e, h⟩)
        · have ekq : kq p k = 3 := if_neg e3
          rw [ekq] at nxt
          repeat refine zA_step rfl rfl ?_
          refine zA_f (by rw [show (3 : Int32) = nI 3 from rfl, nI_eq (by omega) (by omega)]; exact e3) ?_
          repeat refine zA_step rfl rfl ?_
          refine zA_call rfl rfl (mo_in (fun h1 h2 => ?_) (fun h => ?_))
          · rw [hvy] at h1 h2
            repeat refine zA_step rfl rfl ?_
            refine zA_dr rfl rfl rfl ?_
            exact nxt true (by simp only [true_and, true_iff]; exact Or.inr ⟨h1, h2⟩)
          · rw [hvy] at h
            repeat refine zA_step rfl rfl ?_
            refine zA_dr rfl rfl rfl ?_
            exact nxt false (by simp only [Bool.false_eq_true, true_and, false_iff, not_or]; exact ⟨e, h⟩)
