/-! shift -/
theorem OS_LX {σ : zSo} {G : Nat} {L : List (Nat × Nat)} : OS σ (LX G L) ↔ (L.length ≤ 6 ∧ σ 64 0 = nI L.length ∧ ∀ i q, L[i]? = some q → σ 65 i = nI q.1 ∧ σ 66 i = nI (vv G q) ∧ q.1 < 6 ∧ vv G q ≤ 99) := by
  unfold OS
  rw [LX_len]
  have key : ∀ q : Nat × Nat, (if G.testBit q.1 then (q.1, 99) else q).1 = q.1 ∧ (if G.testBit q.1 then (q.1, 99) else q).2 = vv G q := by
    intro q
    unfold vv
    split <;> exact ⟨rfl, rfl⟩
  constructor
  · rintro ⟨h1, h2, h3⟩
    refine ⟨h1, h2, fun i q hi => ?_⟩
    have := h3 i _ (by rw [LX_get, hi]; rfl)
    rw [(key q).1, (key q).2] at this
    exact this
  · rintro ⟨h1, h2, h3⟩
    refine ⟨h1, h2, fun i q hi => ?_⟩
    rw [LX_get] at hi
    cases e : L[i]? with
    | none => rw [e] at hi; cases hi
    | some a =>
      rw [e] at hi
      cases hi
      rw [(key a).1, (key a).2]
      exact h3 i a e
set_option maxHeartbeats 4000000 in
set_option maxRecDepth 100000 in
theorem cl_raise_in {d j G k : Nat} {σ : zSo} {Q : Option Value → zSo → Prop} {p : paT} {L : List (Nat × Nat)} (hO : OS σ (LX G L)) (hC : PC σ 20 p) (hG : Grd p L j G) (hL : whO L) (hw : ∀ q ∈ L, q.1 < pw p) (w6 : pw p ≤ 6) (h99 : ∀ q ∈ L, q.2 ≤ 99) (hk6 : k ≤ 6) (hpk : ∀ w, w < pw p → pk p w ≤ 5)
    (hQ : ∀ (σ' : zSo) G', zFr [64, 65, 66] σ σ' → OS σ' (LX G' L) → Grd p L (j + 1) G' → zA d 19 2 [(0, .ref 64), (1, .ref 20), (2, .int (nI k)), (3, .int (nI j + 1))] [] σ' Q) :
    zA d 19 13 [(0, .ref 64), (1, .ref 20), (2, .int (nI k)), (3, .int (nI j)), (4, .int (-1)), (5, .int 0)] [] σ Q := by
  obtain ⟨o1, o2, o3⟩ := OS_LX.mp hO
  have lp : ∀ n i, i + n = L.length → ∀ b : Int32, ((b = -1 ∧ ∀ a ∈ L.take i, pk p a.1 ≠ 2) ∨ (∃ m q, b = nI m ∧ m < i ∧ L[m]? = some q ∧ pk p q.1 = 2 ∧ ∀ a ∈ L.take i, pk p a.1 = 2 → vv G q ≤ vv G a)) → ∀ ii : Int32, ii = nI i → zA d 19 13 [(0, .ref 64), (1, .ref 20), (2, .int (nI k)), (3, .int (nI j)), (4, .int b), (5, .int ii)] [] σ Q := by
    intro n
    induction n with
    | zero =>
      intro i hi b hb ii ei
      subst ei
      have : i = L.length := by omega
      subst this
      rw [List.take_length] at hb
      refine zA_s0 rfl ?_
      repeat refine zA_step rfl rfl ?_
      rw [o2]
      refine zA_t (Int32.le_refl _) ?_
      repeat refine zA_step rfl rfl ?_
      rcases hb with ⟨e, hn⟩ | ⟨m, q, e, hm, hq, hk2, hmin⟩
      · subst e
        refine zA_t (by decide) ?_
        repeat refine zA_step rfl rfl ?_
        refine zA_dr rfl rfl rfl ?_
        exact hQ σ G zFr.rf hO (hG.none hn)
      · subst e
        refine zA_f (by simp (disch := omega) only [nu_lt, nu_le, nu_eq, nu_cmp_lt, nu_cmp_gt, nu_cmp_ge, nu_cmp_le, nu_wide, Int32.toInt_add, Int32.toInt_sub, Int32.toInt_mul, nu_I, Nat.reducePow, nu_bm, Int32.reduceToInt, Int64.reduceToInt]; omega) ?_
        repeat refine zA_step rfl rfl ?_
        refine zA_sto (j := m) rfl rfl (by omega) (by decide) ?_
        repeat refine zA_step rfl rfl ?_
        refine zA_dr rfl rfl rfl ?_
        refine hQ _ (G ||| 2 ^ q.1) (zFr.rf.up (by simp)) ?_ (hG.one hL (fun a ha => ⟨Nat.lt_of_lt_of_le (hw a ha) w6, h99 a ha⟩) hq hk2 hmin)
        refine OS_LX.mpr ⟨o1, o2, fun i a ha => ?_⟩
        obtain ⟨a1, a2, a3, a4⟩ := o3 i a ha
        rw [zup_k]
        simp only [upd]
        by_cases e : i = m
        · subst e
          rw [hq] at ha
          cases ha
          rw [if_pos rfl]
          have : vv (G ||| 2 ^ q.1) q = 99 := by unfold vv; rw [bit_or]; simp
          rw [this]
          exact ⟨a1, rfl, a3, by omega⟩
        · rw [if_neg e]
          have hne : a.1 ≠ q.1 := by
            rcases Nat.lt_or_gt_of_ne e with c | c
            · have := hL i m a q c ha hq
              omega
            · have := hL m i q a c hq ha
              omega
          have : vv (G ||| 2 ^ q.1) a = vv G a := by unfold vv; rw [bit_or]; simp [hne]
          rw [this]
          exact ⟨a1, a2, a3, a4⟩
    | succ n ih =>
      intro i hi b hb ii ei
      subst ei
      obtain ⟨q, hq⟩ := tk_get (show i < L.length by omega)
      have hqm := List.mem_of_getElem? hq
      obtain ⟨q1, q2, q3, q4⟩ := o3 i q hq
      have hqk := hpk q.1 (hw q hqm)
      refine zA_s0 rfl ?_
      repeat refine zA_step rfl rfl ?_
      rw [o2]
      refine zA_f (by simp (disch := omega) only [nu_lt, nu_le, nu_eq, nu_cmp_lt, nu_cmp_gt, nu_cmp_ge, nu_cmp_le, nu_wide, Int32.toInt_add, Int32.toInt_sub, Int32.toInt_mul, nu_I, Nat.reducePow, nu_bm, Int32.reduceToInt, Int64.reduceToInt]; omega) ?_
      repeat refine zA_step rfl rfl ?_
      refine zA_ld (j := i) rfl rfl (by omega) (by decide) q1 ?_
      refine zA_ld (j := q.1) rfl rfl (by omega) (by decide) (hC.2.2.2.2.2.1 q.1 (hw q hqm)).1 ?_
      repeat refine zA_step rfl rfl ?_
      have new : pk p q.1 = 2 → (∀ a ∈ L.take i, pk p a.1 = 2 → vv G q ≤ vv G a) → zA d 19 13 [(0, .ref 64), (1, .ref 20), (2, .int (nI k)), (3, .int (nI j)), (4, .int (nI i)), (5, .int (nI i + 1))] [] σ Q := fun hk2 hmin => ih (i + 1) (by omega) _ (Or.inr ⟨i, q, rfl, by omega, hq, hk2, fun a ha ka => by
        rcases (tk_mem hq).mp ha with ha | rfl
        · exact hmin a ha ka
        · exact Nat.le_refl _⟩) _ (nI_1 i)
      by_cases h2 : pk p q.1 = 2
      · refine zA_t (by rw [h2]; decide) ?_
        repeat refine zA_step rfl rfl ?_
        rcases hb with ⟨e, hn⟩ | ⟨m, q', e, hm, hq', hk2, hmin⟩
        · subst e
          refine zA_t (by decide) ?_
          repeat refine zA_step rfl rfl ?_
          refine zA_dr rfl rfl rfl ?_
          exact new h2 (fun a ha ka => absurd ka (hn a ha))
        · subst e
          obtain ⟨c1, c2, c3, c4⟩ := o3 m q' hq'
          refine zA_f (by simp (disch := omega) only [nu_lt, nu_le, nu_eq, nu_cmp_lt, nu_cmp_gt, nu_cmp_ge, nu_cmp_le, nu_wide, Int32.toInt_add, Int32.toInt_sub, Int32.toInt_mul, nu_I, Nat.reducePow, nu_bm, Int32.reduceToInt, Int64.reduceToInt]; omega) ?_
          repeat refine zA_step rfl rfl ?_
          refine zA_ld (j := i) rfl rfl (by omega) (by decide) q2 ?_
          repeat refine zA_step rfl rfl ?_
          refine zA_ld (j := m) rfl rfl (by omega) (by decide) c2 ?_
          repeat refine zA_step rfl rfl ?_
          by_cases c : vv G q < vv G q'
          · refine zA_f (by simp (disch := omega) only [nu_lt, nu_le, nu_eq, nu_cmp_lt, nu_cmp_gt, nu_cmp_ge, nu_cmp_le, nu_wide, Int32.toInt_add, Int32.toInt_sub, Int32.toInt_mul, nu_I, Nat.reducePow, nu_bm, Int32.reduceToInt, Int64.reduceToInt]; omega) ?_
            repeat refine zA_step rfl rfl ?_
            refine zA_dr rfl rfl rfl ?_
            exact new h2 (fun a ha ka => by have := hmin a ha ka; omega)
          · refine zA_t (by simp (disch := omega) only [nu_lt, nu_le, nu_eq, nu_cmp_lt, nu_cmp_gt, nu_cmp_ge, nu_cmp_le, nu_wide, Int32.toInt_add, Int32.toInt_sub, Int32.toInt_mul, nu_I, Nat.reducePow, nu_bm, Int32.reduceToInt, Int64.reduceToInt]; omega) ?_
            repeat refine zA_step rfl rfl ?_
            refine zA_dr rfl rfl rfl ?_
            refine ih (i + 1) (by omega) _ (Or.inr ⟨m, q', rfl, by omega, hq', hk2, fun a ha ka => ?_⟩) _ (nI_1 i)
            rcases (tk_mem hq).mp ha with ha | rfl
            · exact hmin a ha ka
            · omega
      · refine zA_f (by simp (disch := omega) only [nu_lt, nu_le, nu_eq, nu_cmp_lt, nu_cmp_gt, nu_cmp_ge, nu_cmp_le, nu_wide, Int32.toInt_add, Int32.toInt_sub, Int32.toInt_mul, nu_I, Nat.reducePow, nu_bm, Int32.reduceToInt, Int64.reduceToInt]; omega) ?_
        repeat refine zA_step rfl rfl ?_
        refine zA_dr rfl rfl rfl ?_
        refine ih (i + 1) (by omega) _ ?_ _ (nI_1 i)
        rcases hb with ⟨e, hn⟩ | ⟨m, q', e, hm, hq', hk2, hmin⟩
        · refine Or.inl ⟨e, fun a ha => ?_⟩
          rcases (tk_mem hq).mp ha with ha | rfl
          · exact hn a ha
          · exact h2
        · refine Or.inr ⟨m, q', e, by omega, hq', hk2, fun a ha ka => ?_⟩
          rcases (tk_mem hq).mp ha with ha | rfl
          · exact hmin a ha ka
          · exact absurd ka h2
  exact lp L.length 0 (by omega) (-1) (Or.inl ⟨rfl, by simp⟩) 0 rfl
set_option maxHeartbeats 4000000 in
set_option maxRecDepth 100000 in
theorem cl_raiseBribed {d k : Nat} {σ : zSo} {Q : Option Value → zSo → Prop} {p : paT} {L : List (Nat × Nat)} {Y : Nat} (hO : OS σ L) (hC : PC σ 20 p) (hW : paW p Y) (hL : whO L) (hw : ∀ q ∈ L, q.1 < pw p) (hk6 : k ≤ 6)
    (hQ : ∀ (σ' : zSo) G, zFr [64, 65, 66] σ σ' → OS σ' (LX G L) → Grd p L k G → Q none σ') : zC d 19 [.ref 64, .ref 20, .int (nI k)] σ Q := by
  have w6 := hW.2.2.2.2.1
  have h99 := OS_99 hO
  have lp : ∀ n j, j + n = k → ∀ (σ1 : zSo) G, zFr [64, 65, 66] σ σ1 → OS σ1 (LX G L) → Grd p L j G → ∀ i : Int32, i = nI j → zA d 19 2 [(0, .ref 64), (1, .ref 20), (2, .int (nI k)), (3, .int i)] [] σ1 Q := by
    intro n
    induction n with
    | zero =>
      intro j hj σ1 G hF hO1 hG i ei
      subst ei
      have : j = k := by omega
      subst this
      refine zA_s0 rfl ?_
      repeat refine zA_step rfl rfl ?_
      refine zA_t (Int32.le_refl _) ?_
      exact zA_ret rfl (hQ σ1 G hF hO1 hG)
    | succ n ih =>
      intro j hj σ1 G hF hO1 hG i ei
      subst ei
      refine zA_s0 rfl ?_
      repeat refine zA_step rfl rfl ?_
      refine zA_f (by simp (disch := omega) only [nu_lt, nu_le, nu_eq, nu_cmp_lt, nu_cmp_gt, nu_cmp_ge, nu_cmp_le, nu_wide, Int32.toInt_add, Int32.toInt_sub, Int32.toInt_mul, nu_I, Nat.reducePow, nu_bm, Int32.reduceToInt, Int64.reduceToInt]; omega) ?_
      repeat refine zA_step rfl rfl ?_
      have hC1 : PC σ1 20 p := hC.fr hW (fun k h1 h2 => hF k (by simp only [List.mem_cons, List.not_mem_nil, or_false]; omega))
      refine cl_raise_in hO1 hC1 hG hL hw w6 h99 hk6 (fun w hw => (hW.2.2.2.2.2.2.1 w hw).1.2) (fun σ2 G' hF2 hO2 hG2 => ?_)
      exact ih (j + 1) (by omega) σ2 G' (hF.tr hF2) hO2 hG2 _ (nI_1 j)
  show zA d _ 0 [(0, .ref 64), (1, .ref 20), (2, .int (nI k))] [] σ Q
  repeat refine zA_step rfl rfl ?_
  have e0 : LX 0 L = L := by
    unfold LX
    conv => rhs; rw [← List.map_id L]
    apply List.map_congr_left
    intro q _; simp
  refine lp k 0 (by omega) σ 0 zFr.rf (by rw [e0]; exact hO) ⟨by omega, by decide, fun w h => by simp at h, fun v _ => ?_⟩ 0 rfl
  unfold cX
  simp
